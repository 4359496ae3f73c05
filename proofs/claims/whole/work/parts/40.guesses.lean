/-! guess, relaxed, helpful -/
theorem RelC.cost {c : Nat} {σ τ : SC} (h : RelC c σ τ) : ∀ a, a < c → ga σ 3 a = nI (cn (ga σ 3) a) ∧ 1 ≤ cn (ga σ 3) a ∧ cn (ga σ 3) a ≤ CP := by
  intro a ha
  obtain ⟨_, _, _, ⟨k, h1, h2, h3⟩, _⟩ := h.2.2.1 a ha
  have e : cn (ga σ 3) a = k := by unfold cn; rw [h3, nI_clamp (by omega)]
  rw [e]
  have : CP = 1000000 := rfl
  exact ⟨h3, h1, by omega⟩
theorem RelC.tcC {c : Nat} {σ τ : SC} (h : RelC c σ τ) : TcC c (cn (ga σ 3)) σ := ⟨h.1.2.1, fun a ha => ⟨(h.2.2.1 a ha).1, (h.cost a ha).1⟩⟩
theorem RelC.tcM {c : Nat} {σ τ : SC} (h : RelC c σ τ) : TcM c (cn (ga σ 3)) τ := fun a ha => by rw [(h.2.1 a ha).2.2.2.1]; exact (h.cost a ha).1
theorem come_M {τ : SC} {n c L : Nat} {nd mk : Nat → Int32} {x goal : Int32} (hn : 100 < n) (h24 : c ≤ 24) (ht : TbM c nd mk τ) (hm : ∀ a, a < c → s30 (mk a)) (hx : s30 x) (hg : ga τ 0 169 = goal) (hst : ∀ k, L ≤ k → lv c nd mk 0 x k = lv c nd mk 0 x L) : f_X12_isComeTo n τ x = some (if sub goal (lv c nd mk 0 x L) then 1 else 0) := by
  obtain ⟨L', _, h1, h2⟩ := last_M h24 ht hn hm 0 hx
  unfold f_X12_isComeTo f_X12_has
  have e : lv c nd mk 0 x L' = lv c nd mk 0 x L := by rw [← hst (L + L') (by omega), ← h2 (L + L') (by omega)]
  rw [h1, bd_e, ld_n (i := 169) 169 rfl (by omega) (by omega), hg, e]
theorem costs_M {τ : SC} {n c : Nat} {nd mk : Nat → Int32} {co : Nat → Nat} (hn : 100 < n) (h24 : c ≤ 24) (ht : TbM c nd mk τ) (hc : TcM c co τ) (ch : Int32) : f_X12_costsOf n τ ch = some (nI (csum co ch c)) := by
  unfold f_X12_costsOf
  have := loop_rel (L := fun f i y => LX12_costsOf_4 τ ch (fun w7 => some w7) f y (nI i)) (K := fun y => some y) (g := fun _ (z : Unit) => z) (c := c) (n := n) (x := 0) (y := ()) (fun k y _ => y = nI (csum co ch k)) (by omega) rfl (by
    intro f y z _
    show ld _ _ _ _ = _
    rw [ld172, ht.1, if_pos (nI_le (Nat.le_refl c) (by omega))]) (by
    rintro f i y z hi rfl
    right
    show ∃ x', ld _ _ _ _ = _ ∧ _ = nI (csum co ch i + _)
    rw [ld172, ht.1, if_neg (nI_ge hi (by omega)), ld72 (by omega), hc i hi, nI_p1]
    by_cases q : bt ch i = true
    · rw [if_pos ((shr_bit (by omega)).mpr q), if_pos q, nI_add, lt_e, lt_e]
      exact ⟨_, rfl, rfl⟩
    · rw [if_neg (fun h => q ((shr_bit (by omega)).mp h)), if_neg q, lt_e, lt_e, Int32.add_zero]
      exact ⟨_, rfl, rfl⟩)
  obtain ⟨y, e1, e2⟩ := this
  exact e1.trans (congrArg some e2)
/-- both make a relaxed plan -/
theorem plan_ok {c n : Nat} {σ τ : SC} (hn : 1000000 ≤ n) (h : RelC c σ τ) {x : Int32} (hx : s30 x) :
    ∃ s L, f_X7_make n σ x (gi σ 2) = some s ∧ PlanS σ s ∧ L ≤ 30 ∧ (∀ k, L ≤ k → lv c (ga σ 0) (ga σ 1) 0 x k = lv c (ga σ 0) (ga σ 1) 0 x L) ∧ gi s 7 = nI L ∧ (∀ k, k ≤ L → ga s 8 k = lv c (ga σ 0) (ga σ 1) 0 x k) ∧
      ((f_X12_isComeTo n τ x = some 0 ∧ gi s 10 = 0 ∧ gi s 11 = 0) ∨ (f_X12_isComeTo n τ x = some 1 ∧ gi s 10 = 1 ∧ ∃ t, f_X12_relaxedFrom n τ x = some (gi s 11, t) ∧ RlxS τ t ∧ gi s 13 = gi t 7 ∧ gi s 12 = nI (csum (cn (ga σ 3)) (gi s 11) c))) := by
  obtain ⟨T, hT, hfix, hmin⟩ := VK_stop (sm := true) (co := cn (ga σ 3)) (nd := ga σ 0) (mk := ga σ 1) (c := c) (fun a ha => (h.cost a ha).2) (v0_ok x)
  obtain ⟨s, L, g1, g2, g3, g4, g5, g6, g7⟩ := make_C (co := cn (ga σ 3)) (goal := gi σ 2) (show 2000 < n by omega) h.1.1 h.tcC (fun a ha => (h.cost a ha).2) h.mk30 hx h.1.2.2.2.2.2.2.1 hT hfix hmin
  have hgo : ga τ 0 169 = gi σ 2 := h.1.2.2.2.2.2.1.symm
  have hcome := come_M (show 100 < n by omega) h.1.1 (TbM.of h) h.mk30 hx hgo g4
  refine ⟨s, L, g1, g2, g3, g4, g5, g6, ?_⟩
  rcases g7 with ⟨q1, q2, q3⟩ | ⟨q1, q2⟩
  · rw [if_neg q1] at hcome
    exact Or.inl ⟨hcome, q2, q3⟩
  · rw [if_pos q1] at hcome
    obtain ⟨t, ch, r1, r2, r3⟩ := relaxed_M (co := cn (ga σ 3)) (show 2000 < n by omega) h.1.1 (TbM.of h) h.tcM (fun a ha => (h.cost a ha).2) (fun a ha => (h.2.2.1 a ha).1) h.1.2.2.2.2.2.2.1 hgo g3 q1 hT hfix hmin
    obtain ⟨u1, u2⟩ := q2.2.2.1.uniq r3 (fun _ _ => trivial) (fun _ _ => trivial)
    refine Or.inr ⟨hcome, q2.2.1, t, ?_, r2, u1, q2.2.2.2⟩
    rw [r1, u2]
theorem ag_relaxed_ok {n : Nat} (hn : 1000000 ≤ n) : ag_relaxed n Rel := by
  rintro σ τ a1 ⟨c, h⟩
  unfold f_X11_relaxed f_X12_relaxed
  rcases set_c a1 with ⟨s1, e1, e2⟩ | ⟨e1, e2⟩
  rotate_left
  · rw [e1, e2, if_pos rfl, if_pos rfl, RC5, RM5]; exact ⟨_, _, _, rfl, rfl, c, h.ref 5⟩
  rw [e1, e2, if_neg one_ne, if_neg one_ne]
  obtain ⟨s, L, g1, g2, _, _, _, _, g7⟩ := plan_ok hn h s1
  rw [g1, bd_e]
  rcases g7 with ⟨q1, q2, q3⟩ | ⟨q1, q2, t, q3, q4, _⟩
  · rw [q1, bd_e, if_pos rfl, q3]
    exact ⟨_, _, _, rfl, rfl, c, h.sameC g2.same⟩
  · rw [q1, bd_e, if_neg one_ne, q3]
    exact ⟨_, _, _, rfl, rfl, c, (h.sameC g2.same).sameM q4.same⟩
theorem helpful_g {c n : Nat} {σ s t : SC} (h24 : c ≤ 24) (hn : 100 < n) {x y : Int32} (hc : gi s 6 = nI c) (h0 : ga s 0 = ga σ 0) (h1 : ga s 1 = ga σ 1) (ht : TbM c (ga σ 0) (ga σ 1) t) :
    ∃ r, LX7_helpfulIn_30 s x y (fun w10 => some w10) n 0 0 = some r ∧ LX12_helpful_51 t x y (fun w19 => some (w19, t)) n 0 0 = some (r, t) ∧ (y = 0 → r = 0) := by
  have c1 := loop_rel (L := fun f i r => LX7_helpfulIn_30 s x y (fun w10 => some w10) f r (nI i)) (K := fun w => some w) (g := fun i (z : Int32) => if sub (ga σ 0 i) x ∧ ¬ (ga σ 1 i &&& y) = 0 then z ||| pw i else z) (c := c) (n := n) (x := 0) (y := 0) (fun k r z => r = z) (by omega) rfl (by
    intro f r z _
    show (if gi s 6 ≤ nI c then _ else _) = _
    rw [hc, if_pos (nI_le (Nat.le_refl c) (by omega))]) (by
    rintro f i r z hi rfl
    right
    show ∃ x', (if gi s 6 ≤ nI i then _ else _) = _ ∧ _
    rw [hc, if_neg (nI_ge hi (by omega)), allowed_C (by omega), bd_e, h0, nI_p1]
    by_cases q : sub (ga σ 0 i) x
    · rw [if_pos q, if_neg one_ne, ldA (by omega), h1]
      by_cases q2 : (ga σ 1 i &&& y) = 0
      · rw [if_pos q2, if_neg (fun h => h.2 q2)]; exact ⟨_, rfl, rfl⟩
      · rw [if_neg q2, if_pos ⟨q, q2⟩]; exact ⟨_, rfl, rfl⟩
    · rw [if_neg q, if_pos rfl, if_neg (fun h => q h.1)]; exact ⟨_, rfl, rfl⟩)
  have m1 := loop_rel (L := fun f i r => LX12_helpful_51 t x y (fun w19 => some (w19, t)) f r (nI i)) (K := fun w => some (w, t)) (g := fun i (z : Int32) => if sub (ga σ 0 i) x ∧ ¬ (ga σ 1 i &&& y) = 0 then z ||| pw i else z) (c := c) (n := n) (x := 0) (y := 0) (fun k r z => r = z) (by omega) rfl (by
    intro f r z _
    show ld _ _ _ _ = _
    rw [ld172, ht.1, if_pos (nI_le (Nat.le_refl c) (by omega))]) (by
    rintro f i r z hi rfl
    right
    show ∃ x', ld _ _ _ _ = _ ∧ _
    rw [ld172, ht.1, if_neg (nI_ge hi (by omega)), mayBe_M (by omega), bd_e, (ht.2 i hi).1, nI_p1]
    by_cases q : sub (ga σ 0 i) x
    · rw [if_pos q, if_neg one_ne, ld24 (by omega), (ht.2 i hi).2]
      by_cases q2 : (ga σ 1 i &&& y) = 0
      · rw [if_pos q2, if_neg (fun h => h.2 q2), or_0]; exact ⟨_, rfl, rfl⟩
      · rw [if_neg q2, if_pos ⟨q, q2⟩]; exact ⟨_, rfl, rfl⟩
    · rw [if_neg q, if_pos rfl, if_neg (fun h => q h.1), or_0]; exact ⟨_, rfl, rfl⟩)
  obtain ⟨r, e1, e2⟩ := c1
  obtain ⟨r', e1', e2'⟩ := m1
  have er : r' = r := e2'.trans e2.symm
  subst er
  refine ⟨r', e1, e1', fun hy => ?_⟩
  rw [e2]
  refine fo_inv (fun _ (z : Int32) => z = 0) rfl ?_
  rintro i z hi rfl
  rw [if_neg]
  rintro ⟨_, h⟩
  apply h
  rw [hy]
  exact b_ext fun i hi => by rw [b_and, b_0, Bool.and_false]
theorem ag_helpful_ok {n : Nat} (hn : 1000000 ≤ n) : ag_helpful n Rel := by
  rintro σ τ a1 ⟨c, h⟩
  unfold f_X11_helpful f_X12_helpful
  rcases set_c a1 with ⟨s1, e1, e2⟩ | ⟨e1, e2⟩
  rotate_left
  · rw [e1, e2, if_pos rfl, if_pos rfl, RC5, RM5]; exact ⟨_, _, _, rfl, rfl, c, h.ref 5⟩
  rw [e1, e2, if_neg one_ne, if_neg one_ne]
  obtain ⟨s, L, g1, g2, g3, g4, g5, g6, g7⟩ := plan_ok hn h s1
  rw [g1, bd_e]
  unfold f_X7_helpfulIn
  simp only [jn_e]
  have hc6 : gi s 6 = nI c := by rw [g2.1 6 (by decide)]; exact h.1.2.1
  have h0 := g2.2.1 0 (by decide) (by decide)
  have h1 := g2.2.1 1 (by decide) (by decide)
  rcases g7 with ⟨q1, q2, q3⟩ | ⟨q1, q2, t, q3, q4, q5, _⟩
  · rw [q1, bd_e, if_pos rfl, q2, if_pos rfl]
    obtain ⟨r, r1, _, r3⟩ := helpful_g (x := a1) (y := 0) (t := τ) h.1.1 (show 100 < n by omega) hc6 h0 h1 (TbM.of h)
    rw [r1, r3 rfl, bd_e]
    exact ⟨_, _, _, rfl, rfl, c, h.sameC g2.same⟩
  · rw [q1, bd_e, if_neg one_ne, q2, if_neg one_ne, q3, bd2_e]
    have htt : TbM c (ga σ 0) (ga σ 1) t := ⟨by rw [q4.2.1 0 (by decide) (by decide) (by decide)]; exact (TbM.of h).1, fun a ha => by rw [q4.2.1 0 (by decide) (by decide) (by decide)]; exact (TbM.of h).2 a ha⟩
    rw [next_M h.1.1 htt (show 100 < n by omega), bd_e, lt_e]
    have e0 : lv c (ga σ 0) (ga σ 1) 0 a1 0 = a1 := nw_0 a1
    have en : f_X3_newAt s 1 = some (lv c (ga σ 0) (ga σ 1) 0 a1 1 &&& (a1 ^^^ (-1))) := by
      unfold f_X3_newAt
      rw [if_neg (by decide), show f_X3_factsAt s 1 = _ from at_C (a := 1) g3 g5 g6 g4 (by omega), bd_e, show f_X3_factsAt s (1 - 1) = _ from at_C (a := 0) g3 g5 g6 g4 (by omega), bd_e, e0]
    have e1 : lv c (ga σ 0) (ga σ 1) 0 a1 1 = nx c (ga σ 0) (ga σ 1) 0 a1 := by
      show nx c (ga σ 0) (ga σ 1) 0 (lv c (ga σ 0) (ga σ 1) 0 a1 0) = _
      rw [e0]
    rw [en, bd_e, e1, q5, show gi t 7 &&& (nx c (ga σ 0) (ga σ 1) 0 a1 &&& (a1 ^^^ (-1))) = (nx c (ga σ 0) (ga σ 1) 0 a1 &&& (a1 ^^^ (-1))) &&& gi t 7 from b_ext fun i _ => by simp only [b_and]; exact Bool.and_comm _ _]
    obtain ⟨r, r1, r2, _⟩ := helpful_g (x := a1) (y := (nx c (ga σ 0) (ga σ 1) 0 a1 &&& (a1 ^^^ (-1))) &&& gi t 7) (t := t) h.1.1 (show 100 < n by omega) hc6 h0 h1 htt
    rw [r1, bd_e]
    exact ⟨_, _, _, rfl, r2, c, (h.sameC g2.same).sameM q4.same⟩
