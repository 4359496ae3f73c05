/-! WAYS: weights from the start and weights to the goal, as numbers alone -/
section
variable {N : Nat} {E : Nat → Nat → Nat → Prop} {w W h : Nat → Nat} {cc : Nat → Nat} {G OB : Nat → Prop} {D : Nat}
theorem wy_lt (hw : ∀ a, w a = 1000 * cc a + 1) (W0 : W 0 = 0) (hE : ∀ k a k', E k a k' → k < N ∧ k' < N) (tg : ∀ k, k < N → k = 0 ∨ ∃ j a, E j a k ∧ W k = W j + w a) (md : ∀ k, k < N → W k % 1000 ≤ 300 ∧ W k ≤ 100000000) {k : Nat} (hk : k < N) : W k < 100000000 := by
  rcases tg k hk with e | ⟨j, a, e1, e2⟩
  · subst e; omega
  · have h1 := md k hk
    have h2 := md j (hE _ _ _ e1).1
    have h3 := hw a
    omega
theorem wy_lo (hE : ∀ k a k', E k a k' → k < N ∧ k' < N) (hw : ∀ a, w a = 1000 * cc a + 1) (tr : ∀ k a k', E k a k' → W k' ≤ W k + w a) (ht : ∀ k, k < N → h k = 100000000 ∨ (G k ∧ h k = 0) ∨ ∃ a k', E k a k' ∧ h k = h k' + w a)
    (hD : ∀ g, g < N → G g → D ≤ W g) : ∀ n k, k < N → h k = n → n < 100000000 → D ≤ W k + n ∧ ∃ g, g < N ∧ G g := by
  intro n
  induction n using Nat.strongRecOn with
  | _ n ih =>
    intro k hk e hn
    rcases ht k hk with q | ⟨q1, q2⟩ | ⟨a, k', q1, q2⟩
    · omega
    · have := hD k hk q1
      exact ⟨by omega, k, hk, q1⟩
    · have h1 := hw a
      obtain ⟨p1, p2⟩ := ih (h k') (by omega) k' (hE _ _ _ q1).2 rfl (by omega)
      have := tr _ _ _ q1
      exact ⟨by omega, p2⟩
theorem wy_up (hE : ∀ k a k', E k a k' → k < N ∧ k' < N) (hw : ∀ a, w a = 1000 * cc a + 1) (md : ∀ k, k < N → W k % 1000 ≤ 300 ∧ W k ≤ 100000000)
    (h0 : ∀ k, k < N → G k → h k = 0) (hr : ∀ k a k', E k a k' → h k ≤ h k' + w a) (ob : ∀ k, k < N → (OB k ↔ (W k = D ∧ G k) ∨ (W k < D ∧ ∃ a k', E k a k' ∧ W k' = W k + w a ∧ OB k'))) :
    ∀ m k, k < N → D - W k = m → OB k → W k ≤ D ∧ W k + h k ≤ D ∧ W k % 1000 ≤ D % 1000 ∧ (W k % 1000 = D % 1000 → W k = D) := by
  intro m
  induction m using Nat.strongRecOn with
  | _ m ih =>
    intro k hk e ho
    rcases (ob k hk).mp ho with ⟨q1, q2⟩ | ⟨q1, a, k', q2, q3, q4⟩
    · have := h0 k hk q2
      rw [q1]
      exact ⟨Nat.le_refl _, by omega, Nat.le_refl _, fun _ => rfl⟩
    · have h1 := hw a
      have k1 := (hE _ _ _ q2).2
      obtain ⟨p1, p2, p3, p4⟩ := ih (D - W k') (by omega) k' k1 rfl q4
      have h2 := hr _ _ _ q2
      have h3 := md k hk
      have h4 := md k' k1
      refine ⟨by omega, by omega, by omega, by omega⟩
theorem wy_ob (hE : ∀ k a k', E k a k' → k < N ∧ k' < N) (hw : ∀ a, w a = 1000 * cc a + 1) (tr : ∀ k a k', E k a k' → W k' ≤ W k + w a) (ht : ∀ k, k < N → h k = 100000000 ∨ (G k ∧ h k = 0) ∨ ∃ a k', E k a k' ∧ h k = h k' + w a)
    (hD : ∀ g, g < N → G g → D ≤ W g) (ob : ∀ k, k < N → (OB k ↔ (W k = D ∧ G k) ∨ (W k < D ∧ ∃ a k', E k a k' ∧ W k' = W k + w a ∧ OB k'))) :
    ∀ n k, k < N → h k = n → n < 100000000 → W k + n = D → OB k := by
  intro n
  induction n using Nat.strongRecOn with
  | _ n ih =>
    intro k hk e hn hs
    rcases ht k hk with q | ⟨q1, q2⟩ | ⟨a, k', q1, q2⟩
    · omega
    · exact (ob k hk).mpr (Or.inl ⟨by omega, q1⟩)
    · have h1 := hw a
      have k1 := (hE _ _ _ q1).2
      have h2 := tr _ _ _ q1
      have h3 := (wy_lo hE hw tr ht hD (h k') k' k1 rfl (by omega)).1
      exact (ob k hk).mpr (Or.inr ⟨by omega, a, k', q1, by omega, ih (h k') (by omega) k' k1 rfl (by omega) (by omega)⟩)
theorem wy_back (hE : ∀ k a k', E k a k' → k < N ∧ k' < N) (hw : ∀ a, w a = 1000 * cc a + 1) (tg : ∀ k, k < N → k = 0 ∨ ∃ j a, E j a k ∧ W k = W j + w a) (ob : ∀ k, k < N → (OB k ↔ (W k = D ∧ G k) ∨ (W k < D ∧ ∃ a k', E k a k' ∧ W k' = W k + w a ∧ OB k'))) :
    ∀ n k, k < N → W k = n → OB k → OB 0 := by
  intro n
  induction n using Nat.strongRecOn with
  | _ n ih =>
    intro k hk e ho
    rcases tg k hk with q | ⟨j, a, q1, q2⟩
    · rw [← q]; exact ho
    · have h1 := hw a
      have j1 := (hE _ _ _ q1).1
      have hle : W k ≤ D := by
        rcases (ob k hk).mp ho with ⟨z, _⟩ | ⟨z, _⟩ <;> omega
      exact ih (W j) (by omega) j j1 rfl ((ob j j1).mpr (Or.inr ⟨by omega, a, k, q1, q2, ho⟩))
/-- the two ways to choose the next action are one -/
theorem wy_step (hE : ∀ k a k', E k a k' → k < N ∧ k' < N) (hw : ∀ a, w a = 1000 * cc a + 1) (md : ∀ k, k < N → W k % 1000 ≤ 300 ∧ W k ≤ 100000000) (tr : ∀ k a k', E k a k' → W k' ≤ W k + w a)
    (h0 : ∀ k, k < N → G k → h k = 0) (hr : ∀ k a k', E k a k' → h k ≤ h k' + w a) (ht : ∀ k, k < N → h k = 100000000 ∨ (G k ∧ h k = 0) ∨ ∃ a k', E k a k' ∧ h k = h k' + w a)
    (hD : ∀ g, g < N → G g → D ≤ W g) (hD2 : D < 100000000) (ob : ∀ k, k < N → (OB k ↔ (W k = D ∧ G k) ∨ (W k < D ∧ ∃ a k', E k a k' ∧ W k' = W k + w a ∧ OB k')))
    {k : Nat} (hk : k < N) (ho : OB k) : W k + h k = D ∧ ∀ a k', E k a k' → ((W k' = W k + w a ∧ OB k') ↔ h k' + w a = h k) := by
  obtain ⟨p1, p2, _, _⟩ := wy_up hE hw md h0 hr ob (D - W k) k hk rfl ho
  have p3 := (wy_lo hE hw tr ht hD (h k) k hk rfl (by omega)).1
  have e : W k + h k = D := by omega
  refine ⟨e, fun a k' he => ?_⟩
  have k1 := (hE _ _ _ he).2
  have h1 := hw a
  have t1 := tr _ _ _ he
  have t2 := hr _ _ _ he
  constructor
  · rintro ⟨q1, q2⟩
    obtain ⟨r1, r2, _, _⟩ := wy_up hE hw md h0 hr ob (D - W k') k' k1 rfl q2
    have r3 := (wy_lo hE hw tr ht hD (h k') k' k1 rfl (by omega)).1
    omega
  · intro q
    have r3 := (wy_lo hE hw tr ht hD (h k') k' k1 rfl (by omega)).1
    exact ⟨by omega, wy_ob hE hw tr ht hD ob (h k') k' k1 rfl (by omega) (by omega)⟩
end
