/-! READ: the call -/
section
variable {c : Nat} {nd mk ud co nd' mk' ud' co' : Nat → Int32}
theorem rowS_cg (h : ∀ a, a < c → nd a = nd' a ∧ mk a = mk' a ∧ ud a = ud' a) (x : Int32) (xs : List Int32) : rowS c nd mk ud x xs = rowS c nd' mk' ud' x xs := by
  rw [rowS_e, rowS_e]
  refine fo_cong (fun i o hi => ?_) _
  obtain ⟨h1, h2, h3⟩ := h i hi
  cases o with
  | none => rfl
  | some ys =>
    show (if sub (nd i) x then addS ys (aft (ud i) (mk i) x) else some ys) = (if sub (nd' i) x then addS ys (aft (ud' i) (mk' i) x) else some ys)
    rw [h1, h2, h3]
theorem bfs_cg (h : ∀ a, a < c → nd a = nd' a ∧ mk a = mk' a ∧ ud a = ud' a) : ∀ (f k : Nat) (xs : List Int32), bfs c nd mk ud f k xs = bfs c nd' mk' ud' f k xs
  | 0, _, _ => rfl
  | f + 1, k, xs => by
    rw [bfs, bfs, rowS_cg h]
    by_cases q : k < xs.length
    · rw [if_pos q, if_pos q]
      cases rowS c nd' mk' ud' (xs.getD k 0) xs with
      | none => rfl
      | some ys => exact bfs_cg h f (k + 1) ys
    · rw [if_neg q, if_neg q]
theorem reach_cg (h : ∀ a, a < c → nd a = nd' a ∧ mk a = mk' a ∧ ud a = ud' a) (start : Int32) : reachS c nd mk ud start = reachS c nd' mk' ud' start := bfs_cg h _ _ _
theorem Ed_cg (h : ∀ a, a < c → nd a = nd' a ∧ mk a = mk' a ∧ ud a = ud' a) (N : Nat) (st : Nat → Int32) : Ed c nd mk ud N st = Ed c nd' mk' ud' N st := by
  funext k a k'
  refine propext ⟨?_, ?_⟩
  · rintro ⟨e1, e2, e3, e4, e5⟩
    obtain ⟨h1, h2, h3⟩ := h a e2
    exact ⟨e1, e2, by rw [← h1]; exact e3, e4, by rw [← h2, ← h3]; exact e5⟩
  · rintro ⟨e1, e2, e3, e4, e5⟩
    obtain ⟨h1, h2, h3⟩ := h a e2
    exact ⟨e1, e2, by rw [h1]; exact e3, e4, by rw [h2, h3]; exact e5⟩
theorem MeasP_cg (h : ∀ a, a < c → nd a = nd' a ∧ mk a = mk' a ∧ ud a = ud' a) (hc : ∀ a, a < c → co a = co' a) {N : Nat} {st : Nat → Int32} {W : Nat → Nat} {we od : Nat → Int32} {fc : Int32} (m : MeasP c nd mk ud co N st W we od fc) : MeasP c nd' mk' ud' co' N st W we od fc := by
  have wc : ∀ a, a < c → wt co a = wt co' a := fun a ha => by unfold wt cn; rw [hc a ha]
  obtain ⟨p1, p2, p3, p4, p5, p6, p7⟩ := m
  rw [Ed_cg h] at p4 p5
  refine ⟨p1, p2, p3, fun k a k' he => ?_, fun k hk => ?_, p6, p7⟩
  · rw [← wc a he.2.1]; exact p4 k a k' he
  · rcases p5 k hk with e | ⟨j, a, e1, e2⟩
    · exact Or.inl e
    · exact Or.inr ⟨j, a, e1, by rw [← wc a e1.2.1]; exact e2⟩
theorem ChoP_cg (h : ∀ a, a < c → nd a = nd' a ∧ mk a = mk' a ∧ ud a = ud' a) (hc : ∀ a, a < c → co a = co' a) {N : Nat} {st : Nat → Int32} {goal : Int32} {W : Nat → Nat} {fd pl pc : Int32} {pn : Nat → Int32} (m : ChoP c nd mk ud co N st goal W fd pl pc pn) : ChoP c nd' mk' ud' co' N st goal W fd pl pc pn := by
  have wc : ∀ a, a < c → wt co a = wt co' a := fun a ha => by unfold wt cn; rw [hc a ha]
  rcases m with m | ⟨p1, D, p2, p3, p4, p5, OB, p6, v, p, p7, p8⟩
  · exact Or.inl m
  · rw [Ed_cg h] at p6 p8
    refine Or.inr ⟨p1, D, p2, p3, p4, p5, OB, fun k hk => ?_, v, p, p7, fun i hi => ?_⟩
    · refine (p6 k hk).trans ⟨?_, ?_⟩
      · rintro (z | ⟨z1, a, k', z2, z3, z4⟩)
        · exact Or.inl z
        · exact Or.inr ⟨z1, a, k', z2, by rw [← wc a z2.2.1]; exact z3, z4⟩
      · rintro (z | ⟨z1, a, k', z2, z3, z4⟩)
        · exact Or.inl z
        · exact Or.inr ⟨z1, a, k', z2, by rw [wc a z2.2.1]; exact z3, z4⟩
    · obtain ⟨u1, u2, u3, u4, u5⟩ := p8 i hi
      exact ⟨u1, u2, by rw [← wc _ u2.2.1]; exact u3, u4, fun a k' ha he => by rw [← wc a he.2.1]; exact u5 a k' ha he⟩
theorem CachP_cg (h : ∀ a, a < c → nd a = nd' a ∧ mk a = mk' a ∧ ud a = ud' a) (hc : ∀ a, a < c → co a = co' a) {start goal rc tm fr fc ms ch fd pl pc : Int32} {st sl we od pn : Nat → Int32} (m : CachP c nd mk ud co start goal rc tm fr fc ms ch fd pl pc st sl we od pn) : CachP c nd' mk' ud' co' start goal rc tm fr fc ms ch fd pl pc st sl we od pn := by
  rcases m with m | ⟨m1, m2, m3⟩
  · exact Or.inl m
  · refine Or.inr ⟨m1, ?_, ?_⟩
    · unfold ReachP at m2 ⊢
      rw [← reach_cg h]; exact m2
    · rcases m3 with m3 | ⟨x1, x2, N, W, x3, x4, x5, x6⟩
      · exact Or.inl m3
      · refine Or.inr ⟨x1, x2, N, W, x3, x4, MeasP_cg h hc x5, ?_⟩
        rcases x6 with x6 | ⟨x6, x7⟩
        · exact Or.inl x6
        · exact Or.inr ⟨x6, ChoP_cg h hc x7⟩
end
/-- the frame of a reading leaves what lies below c -/
theorem FrI.wf {c b : Nat} {σ s : SC} (h : FrI c σ s) (hb : b < c) (hw : WfA σ b) : WfA s b := by
  obtain ⟨w1, w2, w3, w4, w5⟩ := hw
  have q := fun k hk => h.2.2.1 k b hk hb
  unfold WfA
  rw [q 0 (by omega), q 1 (by omega), q 2 (by omega), q 3 (by omega), q 4 (by omega), q 5 (by omega), q 6 (by omega), q 7 (by omega)]
  refine ⟨w1, w2, w3, w4, ?_⟩
  rcases w5 with w5 | ⟨i', j', hi, hj, w5⟩
  · exact Or.inl w5
  · refine Or.inr ⟨i', j', hi, hj, ?_⟩
    rw [h.2.2.1 7 i' (by omega) (by omega), h.2.2.1 7 j' (by omega) (by omega)]
    exact w5
theorem FrI.tab {c ci : Nat} {σ s : SC} {f : Nat → Int32} (h : FrI c σ s) (hci : ci ≤ c) (ht : Tab ci f σ) : Tab ci f s := by
  intro b hb
  have q := fun k hk => h.2.2.1 k b hk (by omega)
  rw [q 0 (by omega), q 1 (by omega), q 2 (by omega), q 3 (by omega), q 4 (by omega), q 5 (by omega), q 6 (by omega)]
  exact ht b hb
theorem rd_shf {c c1 j : Nat} {σ τ s u : SC} (h : Shf c σ τ j) (hc : c ≤ c1) (e20 : ga s 20 = ga σ 20) (e19 : ga s 19 = ga σ 19) (e3 : ga u 3 = ga τ 3) (e4 : ga u 4 = ga τ 4) (el : ∀ j, gl s j = gl σ j) (em : gl u 0 = gl τ 0) : Shf c1 s u j := by
  unfold Shf
  rw [e20, e19, e3, e4, el, em]
  rcases h with h | ⟨a, ha, h⟩ | h
  · exact Or.inl h
  · exact Or.inr (Or.inl ⟨a, by omega, h⟩)
  · exact Or.inr (Or.inr h)
theorem rd_fault {c f z j : Nat} {σ τ s t : SC} (h : RelC c σ τ) (hs : FrI c σ s) (ht : Fr6 (si τ 2 (nI j)) t) (hq : MQr z t (.inr f)) : RelC c (si s 5 (nI f)) t := by
  obtain ⟨r1, r2, r3, r4, r5, r6, r7, r8, r9⟩ := h
  have g : ∀ k, k ≠ 5 → (k < 23 ∨ 29 < k) → gi (si s 5 (nI f)) k = gi σ k := fun k h1 h2 => by rw [gi_si, if_neg h1]; exact hs.1 k h2
  have i0 := g 0 (by omega) (by omega); have i1 := g 1 (by omega) (by omega); have i2 := g 2 (by omega) (by omega); have i3 := g 3 (by omega) (by omega); have i4 := g 4 (by omega) (by omega); have i6 := g 6 (by omega) (by omega)
  have i14 := g 14 (by omega) (by omega); have i15 := g 15 (by omega) (by omega); have i16 := g 16 (by omega) (by omega); have i17 := g 17 (by omega) (by omega); have i18 := g 18 (by omega) (by omega); have i19 := g 19 (by omega) (by omega); have i20 := g 20 (by omega) (by omega); have i21 := g 21 (by omega) (by omega); have i22 := g 22 (by omega) (by omega)
  have i33 := g 33 (by omega) (by omega); have i34 := g 34 (by omega) (by omega); have i35 := g 35 (by omega) (by omega); have i36 := g 36 (by omega) (by omega); have i37 := g 37 (by omega) (by omega); have i38 := g 38 (by omega) (by omega)
  have a : ∀ k, 8 ≤ k → ga (si s 5 (nI f)) k = ga σ k := fun k hk => hs.2.1 k hk
  have tg : ∀ k, k ≠ 2 → k ≠ 3 → k ≠ 4 → k ≠ 5 → k ≠ 6 → gi t k = gi τ k := fun k h2 h3 h4 h5 h6 => by rw [ht.1 k h3 h4 h5 h6, gi_si, if_neg h2]
  have ta : ∀ k, ga t k = ga τ k := fun k => ht.2.1 k
  have hs5 : FrI c s (si s 5 (nI f)) → True := fun _ => trivial
  refine ⟨?_, ?_, fun b hb => ?_, ?_, ?_, ?_, fun q hq => ?_, ?_, ?_⟩
  · simp only [Num, i1, i2, i3, i4, i6, ta]; exact r1
  · rw [ta]; exact hs.tab (Nat.le_refl c) r2
  · exact hs.wf hb (r3 b hb)
  · rw [gi_si, if_pos rfl]; exact hq.2.2.symm
  · rw [a 17 (by omega), ta]; exact r5
  · simp only [Trc, i0, a 18 (by omega), tg 12 (by omega) (by omega) (by omega) (by omega) (by omega), ta]; exact r6
  · exact rd_shf (r7 q hq) (Nat.le_refl c) (a 20 (by omega)) (a 19 (by omega)) (ta 3) (ta 4) hs.2.2.2 (ht.2.2 0)
  · rcases r8 with ⟨q1, q2⟩ | ⟨q1, q2, ci, q3, q4, q5, q6, q7⟩
    · exact Or.inl ⟨by rw [i33]; exact q1, by rw [tg 1 (by omega) (by omega) (by omega) (by omega) (by omega)]; exact q2⟩
    · refine Or.inr ⟨by rw [i33]; exact q1, by rw [tg 1 (by omega) (by omega) (by omega) (by omega) (by omega)]; exact q2, ci, q3, by rw [i34]; exact q4, by rw [ta]; exact q5, by rw [ta]; exact hs.tab q3 q6, ?_⟩
      rw [i35, i36, i37, i38, ta]; exact q7
  · unfold Cach
    rw [i1, i2, i14, i15, i16, i17, i18, i19, i20, i21, i22, a 10 (by omega), a 11 (by omega), a 12 (by omega), a 13 (by omega), a 15 (by omega)]
    exact CachP_cg (fun b hb => ⟨(hs.2.2.1 0 b (by omega) hb).symm, (hs.2.2.1 1 b (by omega) hb).symm, (hs.2.2.1 2 b (by omega) hb).symm⟩) (fun b hb => (hs.2.2.1 3 b (by omega) hb).symm) r9
theorem RelC.flt {c : Nat} {σ τ : SC} (h : RelC c σ τ) (v : Int32) : RelC c (si σ 5 v) (si τ 5 v) := by
  obtain ⟨r1, r2, r3, r4, r5, r6, r7, r8, r9⟩ := h
  exact ⟨r1, r2, r3, rfl, r5, r6, r7, r8, r9⟩
theorem rd_done {c a i z p j : Nat} {w : Nat → Int32} {σ σ0 τ s u : SC} (h : RelC c σ τ) (hσ : FrI c σ σ0) (hC : RdC c a i z p j w σ0 s) (hU : RdU c a z p j w (si τ 2 (nI j)) s u) :
    RelC (c + a) (si (si (si (si (si (si (si (si s 5 (-1)) 1 (gi s 27)) 2 (gi s 28)) 3 (gi s 29)) 6 (nI (c + a))) 16 0) 18 0) 19 0) u := by
  obtain ⟨c1, c2, c3, c4, c5, c6, c7, c8, c9, c10, c11⟩ := hC
  obtain ⟨u1, u2, u3, u4, u5, u6, u7, u8, u9⟩ := hU
  have hs := hσ.tr c6
  have hb := h.flt (-1)
  have tg : ∀ k, k ≠ 2 → k ≠ 3 → k ≠ 4 → k ≠ 5 → k ≠ 6 → gi u k = gi τ k := fun k h2 h3 h4 h5 h6 => by rw [u9.1 k h3 h4 h5 h6, gi_si, if_neg h2]
  have ta : ∀ k, k ≠ 0 → ga u k = ga τ k := fun k hk => u9.2.1 k hk
  have g : ∀ k, k = 0 ∨ k = 4 ∨ 30 ≤ k → gi (si (si (si (si (si (si (si (si s 5 (-1)) 1 (gi s 27)) 2 (gi s 28)) 3 (gi s 29)) 6 (nI (c + a))) 16 0) 18 0) 19 0) k = gi σ k := by
    intro k hk
    simp only [gi_si]
    rw [if_neg (by omega), if_neg (by omega), if_neg (by omega), if_neg (by omega), if_neg (by omega), if_neg (by omega), if_neg (by omega), if_neg (by omega)]
    exact hs.1 k (by omega)
  refine hb.table ⟨c11, rfl, u3, u6.symm, c8, u7.symm, c9, u8.symm, c10, ?_⟩ u5 c7 ?_ rfl (hs.2.1 17 (by omega)) (hs.2.1 18 (by omega)) u2.2.2.2 ?_ (ta 2 (by omega)) (ta 13 (by omega)) (fun q hq => ?_) ?_ ⟨rfl, rfl, rfl⟩
  · rw [g 4 (by omega), u9.2.2.2]; exact h.1.2.2.2.2.2.2.2.2.2
  · exact g 0 (by omega)
  · exact tg 12 (by omega) (by omega) (by omega) (by omega) (by omega)
  · exact rd_shf (h.2.2.2.2.2.2.1 q hq) (by omega) (hs.2.1 20 (by omega)) (hs.2.1 19 (by omega)) (ta 3 (by omega)) (ta 4 (by omega)) hs.2.2.2 (u9.2.2.1 0)
  · rcases h.2.2.2.2.2.2.2.1 with ⟨q1, q2⟩ | ⟨q1, q2, ci, q3, q4, q5, q6, q7⟩
    · exact Or.inl ⟨by rw [g 33 (by omega)]; exact q1, by rw [tg 1 (by omega) (by omega) (by omega) (by omega) (by omega)]; exact q2⟩
    · refine Or.inr ⟨by rw [g 33 (by omega)]; exact q1, by rw [tg 1 (by omega) (by omega) (by omega) (by omega) (by omega)]; exact q2, ci, by omega, by rw [g 34 (by omega)]; exact q4, by rw [ta 1 (by omega)]; exact q5, by rw [ta 1 (by omega)]; exact hs.tab q3 q6, ?_⟩
      rw [g 35 (by omega), g 36 (by omega), g 37 (by omega), g 38 (by omega), ta 1 (by omega)]; exact q7
theorem ag_read_ok {n : Nat} (hn : 1000000 ≤ n) : ag_read n Rel := by
  rintro σ τ a1 ⟨c, h⟩
  have h24 := h.1.1
  unfold f_X11_read f_X12_read
  rcases shelf_c a1 with ⟨j, hj, rfl, e1, e2⟩ | ⟨e1, e2⟩
  · rcases refusal_c hj h.1.1 (h.2.2.2.2.2.2.1 j hj) with ⟨_, _, e3, e4⟩ | ⟨_, e3, e4⟩ | ⟨⟨k, z, hk, hz, p1, p2, p3, p4, p5, p6⟩, e3, e4⟩
    · rw [e3, e4, bd_e, bd_e, if_neg (by decide), if_neg (by decide), RC2, RM2]
      exact ⟨_, _, _, rfl, rfl, c, h.ref 2⟩
    · rw [e3, e4, bd_e, bd_e, if_neg (by decide), if_neg (by decide), RC1, RM1]
      exact ⟨_, _, _, rfl, rfl, c, h.ref 1⟩
    · rw [e3, e4, bd_e, bd_e, if_pos rfl, if_pos rfl, ld_n j rfl hj (by omega)]
      unfold f_X9_readAll f_X12_goesThrough
      simp only [lt_e]
      generalize hS : si (si (si (si (si (si (si (st σ (j + 1)) 23 0) 24 (-1)) 25 0) 26 0) 27 (gi σ 1)) 28 (gi σ 2)) 29 (gi σ 3) = s0
      generalize hT : si (si (si (si (si τ 2 (nI j)) 5 (-1)) 3 0) 4 0) 6 0 = t0
      have sg : ∀ k, k < 23 ∨ 29 < k → gi s0 k = gi σ k := by
        intro k hk
        rw [← hS]
        simp only [gi_si, gi_st]
        rw [if_neg (by omega), if_neg (by omega), if_neg (by omega), if_neg (by omega), if_neg (by omega), if_neg (by omega), if_neg (by omega)]
      have sfr : FrI c σ s0 := ⟨sg, fun k _ => by rw [← hS]; rfl, fun k b _ _ => by rw [← hS]; rfl, fun k => by rw [← hS]; rfl⟩
      have sga : ∀ k, ga s0 k = ga σ k := fun k => by rw [← hS]; rfl
      have sgl : ∀ k, gl s0 k = gl σ k := fun k => by rw [← hS]; rfl
      have hC0 : RdC c 0 0 z 0 j (fun i => (gl σ j i).toInt32) s0 s0 := by
        refine ⟨⟨by rw [← hS]; rfl, hj, hz, by rw [sga]; exact p3, fun i hi => by rw [sgl]⟩, ⟨Nat.zero_le _, by rw [← hS]; rfl, by rw [← hS]; rfl⟩, by rw [sg 6 (by omega)]; exact h.1.2.1, by rw [← hS]; rfl, by rw [← hS]; rfl, FrI.rf c s0, fun b hb => sfr.wf (by omega) (h.2.2.1 b (by omega)), ?_, ?_, ?_, by omega⟩
        · rw [← hS]; exact h.1.2.2.2.2.1
        · rw [← hS]; exact h.1.2.2.2.2.2.2.1
        · rw [← hS]; exact h.1.2.2.2.2.2.2.2.2.1
      have hstat : ∀ t : SC, Fr6 (si τ 2 (nI j)) t → MStt j z (fun i => (gl σ j i).toInt32) t := by
        intro t ht
        refine ⟨by rw [ht.1 2 (by omega) (by omega) (by omega) (by omega)]; rfl, hj, hz, by rw [ht.2.1]; exact p4, fun i hi => ?_⟩
        show (gl t 0 (160 * j + i)).toInt32 = (gl σ j i).toInt32
        rw [ht.2.2, ← p5 i hi]; rfl
      have t0f : Fr6 (si τ 2 (nI j)) t0 := by
        rw [← hT]
        refine ⟨fun k a b d e => ?_, fun _ => rfl, fun _ => rfl⟩
        simp only [gi_si]
        rw [if_neg e, if_neg b, if_neg a, if_neg d]
      have hT0 : RdT c 0 z 0 j (fun i => (gl σ j i).toInt32) (si τ 2 (nI j)) t0 :=
        ⟨hstat t0 t0f, ⟨Nat.zero_le _, by rw [← hT]; rfl, by rw [← hT]; rfl, by rw [← hT]; rfl⟩, by rw [t0f.2.1]; exact h.1.2.2.1, by rw [← hT]; rfl, t0f⟩
      obtain ⟨s1, t1, i1, i2, i3, i4, i5, i6, i7⟩ := it3 hn hC0 hT0
      rw [i1, i2, bd_e, bd_e]
      -- a fault, wherever it was
      have bad : ∀ (s2 t2 : SC) (f : Nat) (y : Int32), FrI c s0 s2 → Fr6 (si τ 2 (nI j)) t2 → CQ z s2 (.inr f) → MQr z t2 (.inr f) →
          ∃ (r : Int32) (σ1 τ1 : SC), (if gi (si s2 5 (gi s2 24)) 5 = (-1) then bd (f_X11_forgetSearch (si (si (si (si (si s2 5 (gi s2 24)) 1 (gi (si s2 5 (gi s2 24)) 27)) 2 (gi (si (si s2 5 (gi s2 24)) 1 (gi (si s2 5 (gi s2 24)) 27)) 28)) 3 (gi (si (si (si s2 5 (gi s2 24)) 1 (gi (si s2 5 (gi s2 24)) 27)) 2 (gi (si (si s2 5 (gi s2 24)) 1 (gi (si s2 5 (gi s2 24)) 27)) 28)) 29)) 6 (gi (si (si (si (si s2 5 (gi s2 24)) 1 (gi (si s2 5 (gi s2 24)) 27)) 2 (gi (si (si s2 5 (gi s2 24)) 1 (gi (si s2 5 (gi s2 24)) 27)) 28)) 3 (gi (si (si (si s2 5 (gi s2 24)) 1 (gi (si s2 5 (gi s2 24)) 27)) 2 (gi (si (si s2 5 (gi s2 24)) 1 (gi (si s2 5 (gi s2 24)) 27)) 28)) 29)) 6 + gi (si (si (si (si s2 5 (gi s2 24)) 1 (gi (si s2 5 (gi s2 24)) 27)) 2 (gi (si (si s2 5 (gi s2 24)) 1 (gi (si s2 5 (gi s2 24)) 27)) 28)) 3 (gi (si (si (si s2 5 (gi s2 24)) 1 (gi (si s2 5 (gi s2 24)) 27)) 2 (gi (si (si s2 5 (gi s2 24)) 1 (gi (si s2 5 (gi s2 24)) 27)) 28)) 29)) 26))) (fun σ12 => some ((gi σ12 25), σ12)) else bd2 (f_X11_refuse (si s2 5 (gi s2 24)) (-6)) (fun v15 σ14 => some (v15, σ14))) = some (r, σ1) ∧
            (if (gi t2 4) = 0 then bd2 (bd (f_X12_item n (si (si (si t2 3 0) 4 0) 6 0) 1) (fun σ5 => LX12_goesThrough_22 n 1 (fun σ12 w13 => some (w13, σ12)) n σ5 1)) (fun v10 σ9 => some (v10, σ9)) else bd2 (f_X12_refused t2 (-6)) (fun v13 σ12 => some (v13, σ12))) = some (r, τ1) ∧ Rel σ1 τ1 := by
        intro s2 t2 f y b1 b2 b3 b4
        have e24 : gi s2 24 = nI f := b3.2
        have hne : ¬ nI f = -1 := nI_nm1 (by have := b3.1; omega)
        rw [e24, show gi (si s2 5 (nI f)) 5 = nI f from rfl, if_neg hne, b4.2.1, if_neg one_ne, RC5, RM5]
        exact ⟨_, _, _, rfl, rfl, c, (rd_fault h (sfr.tr b1) b2 b4).ref 5⟩
      rcases i7 with ⟨f, b1, b2⟩ | ⟨a', p', l1, b1, b2, b3⟩
      · have eS : LX9_readAll_48 n j (fun σ16 => some σ16) n s1 0 = some s1 := by
          obtain ⟨n, rfl⟩ : ∃ n', n = n' + 1 := ⟨n - 1, by omega⟩
          rw [LX9_readAll_48, b1.2, if_neg (nI_nm1 (by have := b1.1; omega))]
          split <;> rfl
        have eM : LX12_goesThrough_22 n 0 (fun σ12 w13 => some (w13, σ12)) n t1 1 = some (1, t1) := by
          obtain ⟨n, rfl⟩ : ∃ n', n = n' + 1 := ⟨n - 1, by omega⟩
          rw [LX12_goesThrough_22, b2.2.1, if_neg one_ne]
        rw [eS, eM, bd_e, bd2_e]
        exact bad s1 t1 f 0 i3 i4 b1 b2
      · obtain ⟨s2, t2, y2, j1, j2, j3, j4, j5⟩ := rd_loop hn 160 n n 0 a' 1 p' s1 t1 (by omega) (by omega) (by omega) (by omega) b1 b2
        have j1 : LX9_readAll_48 n j (fun σ16 => some σ16) n s1 0 = some s2 := j1
        have j2 : LX12_goesThrough_22 n 0 (fun σ12 w13 => some (w13, σ12)) n t1 1 = some (y2, t2) := j2
        rw [j1, j2, bd_e, bd2_e]
        rcases j5 with ⟨f, x1, x2⟩ | ⟨a2, i2', p2', x1, x2, x3⟩
        · exact bad s2 t2 f 0 j3 j4 x1 x2
        · have hU0 : RdU c 0 z 0 j (fun i => (gl σ j i).toInt32) (si τ 2 (nI j)) s0 (si (si (si t2 3 0) 4 0) 6 0) := by
            have hfu : Fr6 (si τ 2 (nI j)) (si (si (si t2 3 0) 4 0) 6 0) := by
              refine ⟨fun k a b d e => ?_, j4.2.1, j4.2.2⟩
              simp only [gi_si]
              rw [if_neg e, if_neg b, if_neg a]
              exact j4.1 k a b d e
            have g0 : ga (si (si (si t2 3 0) 4 0) 6 0) 0 = ga τ 0 := hfu.2.1 0
            refine ⟨hstat _ hfu, ⟨Nat.zero_le _, rfl, rfl, x2.2.1.2.2.2⟩, by rw [g0]; exact h.1.2.2.1, rfl, ?_, ?_, ?_, ?_, hfu.1, fun a _ => hfu.2.1 a, hfu.2.2, by rw [g0]; rfl⟩
            · rw [g0]; exact sfr.tab (Nat.le_refl c) h.2.1
            · rw [g0, ← hS]; exact h.1.2.2.2.1.symm
            · rw [g0, ← hS]; exact h.1.2.2.2.2.2.1.symm
            · rw [g0, ← hS]; exact h.1.2.2.2.2.2.2.2.1.symm
          obtain ⟨u1, ue1, uR1⟩ := b3 _ hU0
          obtain ⟨u2, ue2, uR2⟩ := x3 u1 uR1
          have ue2 : LX12_goesThrough_22 n 1 (fun σ12 w13 => some (w13, σ12)) n u1 1 = some (nI i2', u2) := ue2
          have e24 : gi s2 24 = -1 := x1.2.1.2.2
          have e25 : gi s2 25 = nI i2' := x1.2.2.2.2.1
          have e26 : gi s2 26 = nI a2 := x1.2.2.2.1
          have e6 : gi s2 6 = nI c := x1.2.2.1
          rw [e24, show gi (si s2 5 (-1)) 5 = -1 from rfl, if_pos rfl, x2.2.1.2.2.1, if_pos rfl, ue1, bd_e, ue2, bd2_e, forget_C, bd_e]
          refine ⟨nI i2', _, u2, ?_, rfl, c + a2, rd_done h sfr x1 uR2⟩
          show some (gi s2 25, si (si (si (si (si (si (si (si s2 5 (-1)) 1 (gi s2 27)) 2 (gi s2 28)) 3 (gi s2 29)) 6 (gi s2 6 + gi s2 26)) 16 0) 18 0) 19 0) = _
          rw [e25, e6, e26, nI_add]
  · have e3 : f_X11_refusalOfRow σ a1 = some (-1) := by unfold f_X11_refusalOfRow; rw [e1, if_pos rfl]
    have e4 : f_X12_wanted τ a1 = some (-1) := by unfold f_X12_wanted; rw [e2, if_pos rfl]
    rw [e3, e4, bd_e, bd_e, if_neg (by decide), if_neg (by decide), RC0, RM0]
    exact ⟨_, _, _, rfl, rfl, c, h.ref 0⟩
