/-! ROWS that take the machine's step and the pure word's step together -/
theorem lt_at {α β : Type} {x z : α} {k : α → β} {r : β} (e : z = x) (h : lt x k = r) : k z = r := by subst e; exact h
def dt {β : Type} (t : Nat) (k : Nat → Option β) : Option β := match t with
  | 0 => none
  | j + 1 => if j < 8 then k j else none
theorem dt_o {β : Type} {t : Nat} {k : Nat → Option β} {r : β} (h : dt t k = some r) : ∃ j, j < 8 ∧ t = j + 1 ∧ k j = some r := by
  cases t with
  | zero => cases h
  | succ j =>
    simp only [dt] at h
    split at h
    · next q => exact ⟨j, q, rfl, h⟩
    · cases h
theorem b_if {β : Type} {r : β} {C G : Prop} [Decidable C] {X Y : β} (h : (if C then X else Y) = r) (kt : C → X = r → G) (kf : ¬ C → Y = r → G) : G := by
  by_cases c : C
  · exact kt c (by rw [if_pos c] at h; exact h)
  · exact kf c (by rw [if_neg c] at h; exact h)
theorem sw_out (lo hi : Int) (x : Int32) (h : ∀ k : Int, x.toInt = k → lo ≤ k → k ≤ hi → False) : x.toInt < lo ∨ hi < x.toInt := by
  rcases Int.lt_or_le x.toInt lo with q | q
  · exact Or.inl q
  · rcases Int.lt_or_le hi x.toInt with q2 | q2
    · exact Or.inr q2
    · exact (h _ rfl q q2).elim
section RW
variable {p : Program} {l : Launch} {e : Env} {R : Room} {s : State} {m : MethodId} {args : Array Value} {below : List Frame} {meth : Method} {c : Code} {H : Heap} {locs : List Loc} {cells slots : Nat} {Q : State → Prop}
variable {cc : ByteArray} {pc : Nat} {ls : Array Slot} {rest : List Value} {G : EN} {B : Nat → Prop} {nL : Nat} {own : String}
theorem nm_i {β : Type} {x : Int32} {K : Int32 → β} {r : β} (h : lt x K = r) (kk : ∀ z : Int32, K z = r → W p l e R s m args below meth c H locs cells slots Q (F0 m pc ls (.int z :: rest))) : W p l e R s m args below meth c H locs cells slots Q (F0 m pc ls (.int x :: rest)) := kk x h
theorem nm_l {β : Type} {x : Int64} {K : Int64 → β} {r : β} (h : lt x K = r) (kk : ∀ z : Int64, K z = r → W p l e R s m args below meth c H locs cells slots Q (F0 m pc ls (.long z :: rest))) : W p l e R s m args below meth c H locs cells slots Q (F0 m pc ls (.long x :: rest)) := kk x h
theorem w_iinc {β : Type} {i k : Nat} {n : Int} {x cst : Int32} {K : Int32 → β} {r : β} {lv lv' : List (Nat × Value)} (hx : p.tables.exec = Jvm.exec) (hb : c.code = cc) (hd : decode cc pc = .ok (.iinc i n, 3)) (hl : lv_has ls nL lv) (hk : lv[k]? = some (i, .int x)) (hc : Int32.ofInt n = cst) (hn : i < nL) (hf : lv.filter (fun q => !(q.1 == i) && !(q.1 + 1 == i && q.2.category == 2)) = lv') (h : lt (x + cst) K = r)
    (kk : ∀ (z : Int32) (ls : Array Slot), lv_has ls nL ((i, .int z) :: lv') → K z = r → W p l e R s m args below meth c H locs cells slots Q (F0 m (pc + 3) ls rest)) : W p l e R s m args below meth c H locs cells slots Q (F0 m pc ls rest) :=
  lv_iinc (v := x + cst) (lv' := (i, .int (x + cst)) :: lv') hx hb hd hl hk (by rw [hc]) hn (by rw [hf]) (fun ls hl => kk _ ls hl h)

theorem bz_eq {β : Type} {r X Y : β} {x : Int32} {off : Int} {tgt : Nat} (hx : p.tables.exec = Jvm.exec) (hb : c.code = cc) (h : (if x = 0 then X else Y) = r) (hd : decode cc pc = .ok (.ifCond .eq off, 3)) (ht : (pc : Int) + off = (tgt : Int)) (kt : x = 0 → X = r → W p l e R s m args below meth c H locs cells slots Q (F0 m tgt ls rest)) (kf : ¬ x = 0 → Y = r → W p l e R s m args below meth c H locs cells slots Q (F0 m (pc + 3) ls rest)) : W p l e R s m args below meth c H locs cells slots Q (F0 m pc ls (.int x :: rest)) :=
  lv_if_eq hx hb hd ht (fun q => kt q (by rw [if_pos q] at h; exact h)) (fun q => kf q (by rw [if_neg q] at h; exact h))
theorem bc_eq {β : Type} {r X Y : β} {x y : Int32} {off : Int} {tgt : Nat} (hx : p.tables.exec = Jvm.exec) (hb : c.code = cc) (h : (if x = y then X else Y) = r) (hd : decode cc pc = .ok (.if_icmp .eq off, 3)) (ht : (pc : Int) + off = (tgt : Int)) (kt : x = y → X = r → W p l e R s m args below meth c H locs cells slots Q (F0 m tgt ls rest)) (kf : ¬ x = y → Y = r → W p l e R s m args below meth c H locs cells slots Q (F0 m (pc + 3) ls rest)) : W p l e R s m args below meth c H locs cells slots Q (F0 m pc ls (.int y :: .int x :: rest)) :=
  lv_icmp_eq hx hb hd ht (fun q => kt q (by rw [if_pos q] at h; exact h)) (fun q => kf q (by rw [if_neg q] at h; exact h))
theorem bz_ne {β : Type} {r X Y : β} {x : Int32} {off : Int} {tgt : Nat} (hx : p.tables.exec = Jvm.exec) (hb : c.code = cc) (h : (if x = 0 then X else Y) = r) (hd : decode cc pc = .ok (.ifCond .ne off, 3)) (ht : (pc : Int) + off = (tgt : Int)) (kt : x = 0 → X = r → W p l e R s m args below meth c H locs cells slots Q (F0 m (pc + 3) ls rest)) (kf : ¬ x = 0 → Y = r → W p l e R s m args below meth c H locs cells slots Q (F0 m tgt ls rest)) : W p l e R s m args below meth c H locs cells slots Q (F0 m pc ls (.int x :: rest)) :=
  lv_if_ne hx hb hd ht (fun q => kf q (by rw [if_neg q] at h; exact h)) (fun q => kt q (by rw [if_pos q] at h; exact h))
theorem bc_ne {β : Type} {r X Y : β} {x y : Int32} {off : Int} {tgt : Nat} (hx : p.tables.exec = Jvm.exec) (hb : c.code = cc) (h : (if x = y then X else Y) = r) (hd : decode cc pc = .ok (.if_icmp .ne off, 3)) (ht : (pc : Int) + off = (tgt : Int)) (kt : x = y → X = r → W p l e R s m args below meth c H locs cells slots Q (F0 m (pc + 3) ls rest)) (kf : ¬ x = y → Y = r → W p l e R s m args below meth c H locs cells slots Q (F0 m tgt ls rest)) : W p l e R s m args below meth c H locs cells slots Q (F0 m pc ls (.int y :: .int x :: rest)) :=
  lv_icmp_ne hx hb hd ht (fun q => kf q (by rw [if_neg q] at h; exact h)) (fun q => kt q (by rw [if_pos q] at h; exact h))
theorem bz_lt {β : Type} {r X Y : β} {x : Int32} {off : Int} {tgt : Nat} (hx : p.tables.exec = Jvm.exec) (hb : c.code = cc) (h : (if x < 0 then X else Y) = r) (hd : decode cc pc = .ok (.ifCond .lt off, 3)) (ht : (pc : Int) + off = (tgt : Int)) (kt : x < 0 → X = r → W p l e R s m args below meth c H locs cells slots Q (F0 m tgt ls rest)) (kf : ¬ x < 0 → Y = r → W p l e R s m args below meth c H locs cells slots Q (F0 m (pc + 3) ls rest)) : W p l e R s m args below meth c H locs cells slots Q (F0 m pc ls (.int x :: rest)) :=
  lv_if_lt hx hb hd ht (fun q => kt q (by rw [if_pos q] at h; exact h)) (fun q => kf q (by rw [if_neg q] at h; exact h))
theorem bc_lt {β : Type} {r X Y : β} {x y : Int32} {off : Int} {tgt : Nat} (hx : p.tables.exec = Jvm.exec) (hb : c.code = cc) (h : (if x < y then X else Y) = r) (hd : decode cc pc = .ok (.if_icmp .lt off, 3)) (ht : (pc : Int) + off = (tgt : Int)) (kt : x < y → X = r → W p l e R s m args below meth c H locs cells slots Q (F0 m tgt ls rest)) (kf : ¬ x < y → Y = r → W p l e R s m args below meth c H locs cells slots Q (F0 m (pc + 3) ls rest)) : W p l e R s m args below meth c H locs cells slots Q (F0 m pc ls (.int y :: .int x :: rest)) :=
  lv_icmp_lt hx hb hd ht (fun q => kt q (by rw [if_pos q] at h; exact h)) (fun q => kf q (by rw [if_neg q] at h; exact h))
theorem bz_ge {β : Type} {r X Y : β} {x : Int32} {off : Int} {tgt : Nat} (hx : p.tables.exec = Jvm.exec) (hb : c.code = cc) (h : (if 0 ≤ x then X else Y) = r) (hd : decode cc pc = .ok (.ifCond .ge off, 3)) (ht : (pc : Int) + off = (tgt : Int)) (kt : 0 ≤ x → X = r → W p l e R s m args below meth c H locs cells slots Q (F0 m tgt ls rest)) (kf : ¬ 0 ≤ x → Y = r → W p l e R s m args below meth c H locs cells slots Q (F0 m (pc + 3) ls rest)) : W p l e R s m args below meth c H locs cells slots Q (F0 m pc ls (.int x :: rest)) :=
  lv_if_ge hx hb hd ht (fun q => kt q (by rw [if_pos q] at h; exact h)) (fun q => kf q (by rw [if_neg q] at h; exact h))
theorem bc_ge {β : Type} {r X Y : β} {x y : Int32} {off : Int} {tgt : Nat} (hx : p.tables.exec = Jvm.exec) (hb : c.code = cc) (h : (if y ≤ x then X else Y) = r) (hd : decode cc pc = .ok (.if_icmp .ge off, 3)) (ht : (pc : Int) + off = (tgt : Int)) (kt : y ≤ x → X = r → W p l e R s m args below meth c H locs cells slots Q (F0 m tgt ls rest)) (kf : ¬ y ≤ x → Y = r → W p l e R s m args below meth c H locs cells slots Q (F0 m (pc + 3) ls rest)) : W p l e R s m args below meth c H locs cells slots Q (F0 m pc ls (.int y :: .int x :: rest)) :=
  lv_icmp_ge hx hb hd ht (fun q => kt q (by rw [if_pos q] at h; exact h)) (fun q => kf q (by rw [if_neg q] at h; exact h))
theorem bz_gt {β : Type} {r X Y : β} {x : Int32} {off : Int} {tgt : Nat} (hx : p.tables.exec = Jvm.exec) (hb : c.code = cc) (h : (if 0 < x then X else Y) = r) (hd : decode cc pc = .ok (.ifCond .gt off, 3)) (ht : (pc : Int) + off = (tgt : Int)) (kt : 0 < x → X = r → W p l e R s m args below meth c H locs cells slots Q (F0 m tgt ls rest)) (kf : ¬ 0 < x → Y = r → W p l e R s m args below meth c H locs cells slots Q (F0 m (pc + 3) ls rest)) : W p l e R s m args below meth c H locs cells slots Q (F0 m pc ls (.int x :: rest)) :=
  lv_if_gt hx hb hd ht (fun q => kt q (by rw [if_pos q] at h; exact h)) (fun q => kf q (by rw [if_neg q] at h; exact h))
theorem bc_gt {β : Type} {r X Y : β} {x y : Int32} {off : Int} {tgt : Nat} (hx : p.tables.exec = Jvm.exec) (hb : c.code = cc) (h : (if y < x then X else Y) = r) (hd : decode cc pc = .ok (.if_icmp .gt off, 3)) (ht : (pc : Int) + off = (tgt : Int)) (kt : y < x → X = r → W p l e R s m args below meth c H locs cells slots Q (F0 m tgt ls rest)) (kf : ¬ y < x → Y = r → W p l e R s m args below meth c H locs cells slots Q (F0 m (pc + 3) ls rest)) : W p l e R s m args below meth c H locs cells slots Q (F0 m pc ls (.int y :: .int x :: rest)) :=
  lv_icmp_gt hx hb hd ht (fun q => kt q (by rw [if_pos q] at h; exact h)) (fun q => kf q (by rw [if_neg q] at h; exact h))
theorem bz_le {β : Type} {r X Y : β} {x : Int32} {off : Int} {tgt : Nat} (hx : p.tables.exec = Jvm.exec) (hb : c.code = cc) (h : (if x ≤ 0 then X else Y) = r) (hd : decode cc pc = .ok (.ifCond .le off, 3)) (ht : (pc : Int) + off = (tgt : Int)) (kt : x ≤ 0 → X = r → W p l e R s m args below meth c H locs cells slots Q (F0 m tgt ls rest)) (kf : ¬ x ≤ 0 → Y = r → W p l e R s m args below meth c H locs cells slots Q (F0 m (pc + 3) ls rest)) : W p l e R s m args below meth c H locs cells slots Q (F0 m pc ls (.int x :: rest)) :=
  lv_if_le hx hb hd ht (fun q => kt q (by rw [if_pos q] at h; exact h)) (fun q => kf q (by rw [if_neg q] at h; exact h))
theorem bc_le {β : Type} {r X Y : β} {x y : Int32} {off : Int} {tgt : Nat} (hx : p.tables.exec = Jvm.exec) (hb : c.code = cc) (h : (if x ≤ y then X else Y) = r) (hd : decode cc pc = .ok (.if_icmp .le off, 3)) (ht : (pc : Int) + off = (tgt : Int)) (kt : x ≤ y → X = r → W p l e R s m args below meth c H locs cells slots Q (F0 m tgt ls rest)) (kf : ¬ x ≤ y → Y = r → W p l e R s m args below meth c H locs cells slots Q (F0 m (pc + 3) ls rest)) : W p l e R s m args below meth c H locs cells slots Q (F0 m pc ls (.int y :: .int x :: rest)) :=
  lv_icmp_le hx hb hd ht (fun q => kt q (by rw [if_pos q] at h; exact h)) (fun q => kf q (by rw [if_neg q] at h; exact h))
theorem b_null {β : Type} {r X Y : β} {A : Nat → Nat} {t : Nat} {off : Int} {tgt : Nat} (hx : p.tables.exec = Jvm.exec) (hb : c.code = cc) (h : (if t = 0 then X else Y) = r) (hd : decode cc pc = .ok (.ifnull off, 3)) (ht : (pc : Int) + off = (tgt : Int)) (kt : t = 0 → X = r → W p l e R s m args below meth c H locs cells slots Q (F0 m tgt ls rest)) (kf : ¬ t = 0 → Y = r → W p l e R s m args below meth c H locs cells slots Q (F0 m (pc + 3) ls rest)) : W p l e R s m args below meth c H locs cells slots Q (F0 m pc ls (tv A t :: rest)) := by
  cases t with
  | zero => exact lv_ifnullN hx hb hd ht (kt rfl (by rw [if_pos rfl] at h; exact h))
  | succ j => exact lv_ifnull hx hb hd (kf (Nat.succ_ne_zero j) (by rw [if_neg (Nat.succ_ne_zero j)] at h; exact h))
theorem ret_is {wf : SC → va_W} {ty : FieldType} {r0 v : Int32} {σ0 σ1 : SC} (hret : RtI p l e R s m args below meth c Q cc ty G B r0 (wf σ0)) (h : some (v, σ1) = some (r0, σ0)) (hn : narrow ty (.int v) = .int v) (hW : WS G B s (wf σ1) H locs) (hd : decode cc pc = .ok (.ireturn, 1)) : W p l e R s m args below meth c H locs 0 0 Q (F0 m pc ls [.int v]) := by
  cases h
  exact hret H locs pc ls _ rfl hn hW hd
theorem ret_ls {wf : SC → va_W} {r0 v : Int64} {σ0 σ1 : SC} (hret : RtJ p l e R s m args below meth c Q cc G B r0 (wf σ0)) (h : some (v, σ1) = some (r0, σ0)) (hW : WS G B s (wf σ1) H locs) (hd : decode cc pc = .ok (.lreturn, 1)) : W p l e R s m args below meth c H locs 0 0 Q (F0 m pc ls [.long v]) := by
  cases h
  exact hret H locs pc ls _ rfl hW hd
theorem ret_vs {wf : SC → va_W} {σ0 σ1 : SC} (hret : RtV p l e R s m args below meth c Q cc G B (wf σ0)) (h : some σ1 = some σ0) (hW : WS G B s (wf σ1) H locs) (hd : decode cc pc = .ok (.return_, 1)) : W p l e R s m args below meth c H locs 0 0 Q (F0 m pc ls []) := by
  cases h
  exact hret H locs pc ls hW hd
end RW
