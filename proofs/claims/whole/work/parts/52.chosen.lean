/-! CHOOSE: the way itself, and what is kept -/
def vv (pk : Nat → Nat) : Nat → Nat
  | 0 => 0
  | i + 1 => pk (vv pk i)
theorem chosen_C {n c D : Nat} {xs : List Int32} {W o : Nat → Nat} {s0 : SC} {gg : Int32} (hn : 1000000 ≤ n) (h : SX c s0 xs) (hq : Msd c s0 xs W o) (hm : ∀ k, k < xs.length → Mrk c s0 xs gg W D k)
    (hg : ∃ g, g < xs.length ∧ sub gg (ga s0 10 g) ∧ W g = D) (h21 : gi s0 21 = 0) :
    ∃ (s' : SC) (v p : Nat → Nat), LX4_choose_82 n (nI (D % 1000)) (fun σ23 => some σ23) n s0 0 0 = some s' ∧ Sam15 s0 s' ∧ gi s' 21 = nI (D % 1000) ∧ v 0 = 0 ∧ ∀ i, i < D % 1000 → ga s' 15 i = nI (p i) ∧ Ex c s0 xs (v i) (p i) (v (i + 1)) ∧ W (v (i + 1)) = W (v i) + wt (ga s0 3) (p i) ∧ ga s0 14 (v (i + 1)) ≠ 0 ∧
      ∀ a k', a < p i → Ex c s0 xs (v i) a k' → ¬ (W k' = W (v i) + wt (ga s0 3) a ∧ ga s0 14 k' ≠ 0) := by
  have hq' := hq
  obtain ⟨q1, q2, q3, q4, q5, q6, q7, q8, q9⟩ := hq'
  have h24 := h.2.1
  have hl := h.2.2.2.2.1.2.1
  have hpos := h.2.2.2.2.1.1
  have hD : D % 1000 ≤ 300 := by obtain ⟨g, g1, _, g3⟩ := hg; rw [← g3]; exact (q6 g g1).1
  have ob0 : ga s0 14 0 ≠ 0 := by
    obtain ⟨g, g1, g2, g3⟩ := hg
    exact wy_back (N := xs.length) (E := Ex c s0 xs) (w := wt (ga s0 3)) (W := W) (cc := cn (ga s0 3)) (G := fun k => sub gg (ga s0 10 k)) (OB := fun k => ga s0 14 k ≠ 0) (D := D) (fun k a k' he => ⟨he.1, he.2.2.2.1⟩) (fun _ => rfl) q5
      (fun k hk => (hm k hk).trans ⟨fun z => z.imp_right (fun ⟨z1, a, k', z2⟩ => ⟨z1, a, k', z2⟩), fun z => z.imp_right (fun ⟨z1, a, k', z2⟩ => ⟨z1, a, k', z2⟩)⟩) (W g) g g1 rfl ((hm g g1).mpr (Or.inl ⟨g3, g2⟩))
  have sk : ∀ k, ∃ ak : Nat × Nat, k < xs.length → ga s0 14 k ≠ 0 → W k < D → ak.1 < c ∧ Ex c s0 xs k ak.1 ak.2 ∧ W ak.2 = W k + wt (ga s0 3) ak.1 ∧ ga s0 14 ak.2 ≠ 0 ∧ ∀ a', a' < ak.1 → ¬ Onw c s0 xs W k a' := by
    intro k
    rcases Classical.em (k < xs.length ∧ ga s0 14 k ≠ 0 ∧ W k < D) with ⟨k1, k2, k3⟩ | hno
    · rcases (hm k k1).mp k2 with ⟨z, _⟩ | ⟨_, a, z⟩
      · omega
      · have hac : a < c := by obtain ⟨k', he, _⟩ := z; exact he.2.1
        obtain ⟨a, ha, ⟨k', z1, z2, z3⟩, z4⟩ := least (fun a => Onw c s0 xs W k a) c ⟨a, hac, z⟩
        exact ⟨(a, k'), fun _ _ _ => ⟨ha, z1, z2, z3, z4⟩⟩
    · exact ⟨(0, 0), fun k1 k2 k3 => absurd ⟨k1, k2, k3⟩ hno⟩
  obtain ⟨f, hf⟩ := Classical.skolem.mp sk
  have inv : ∀ i, i ≤ D % 1000 → vv (fun k => (f k).2) i < xs.length ∧ ga s0 14 (vv (fun k => (f k).2) i) ≠ 0 ∧ W (vv (fun k => (f k).2) i) % 1000 = i := by
    intro i
    induction i with
    | zero => intro _; exact ⟨hpos, ob0, by show W 0 % 1000 = 0; omega⟩
    | succ i ih =>
      intro hi
      obtain ⟨i1, i2, i3⟩ := ih (by omega)
      have hlt : W (vv (fun k => (f k).2) i) < D := by
        rcases (hm _ i1).mp i2 with ⟨z, _⟩ | ⟨z, _⟩
        · omega
        · exact z
      obtain ⟨p1, p2, p3, p4, _⟩ := hf _ i1 i2 hlt
      refine ⟨p2.2.2.2.1, p4, ?_⟩
      show W (f (vv (fun k => (f k).2) i)).2 % 1000 = i + 1
      rw [p3]
      have : wt (ga s0 3) (f (vv (fun k => (f k).2) i)).1 = 1000 * cn (ga s0 3) (f (vv (fun k => (f k).2) i)).1 + 1 := rfl
      omega
  have stp : ∀ i, i < D % 1000 → (f (vv (fun k => (f k).2) i)).1 < c ∧ Ex c s0 xs (vv (fun k => (f k).2) i) (f (vv (fun k => (f k).2) i)).1 (vv (fun k => (f k).2) (i + 1)) ∧ W (vv (fun k => (f k).2) (i + 1)) = W (vv (fun k => (f k).2) i) + wt (ga s0 3) (f (vv (fun k => (f k).2) i)).1 ∧ ga s0 14 (vv (fun k => (f k).2) (i + 1)) ≠ 0 ∧ ∀ a', a' < (f (vv (fun k => (f k).2) i)).1 → ¬ Onw c s0 xs W (vv (fun k => (f k).2) i) a' := by
    intro i hi
    obtain ⟨i1, i2, i3⟩ := inv i (by omega)
    have hlt : W (vv (fun k => (f k).2) i) < D := by
      rcases (hm _ i1).mp i2 with ⟨z, _⟩ | ⟨z, _⟩
      · omega
      · exact z
    exact hf _ i1 i2 hlt
  generalize hv : vv (fun k => (f k).2) = v at inv stp
  have v0 : v 0 = 0 := by rw [← hv]; rfl
  have key : ∀ (d fu i : Nat) (s : SC), i + d = D % 1000 → d < fu → Sam15 s0 s → gi s 21 = nI i → (∀ q, q < i → ga s 15 q = nI (f (v q)).1) →
      ∃ s', LX4_choose_82 n (nI (D % 1000)) (fun σ23 => some σ23) fu s (nI (v i)) (nI i) = some s' ∧ Sam15 s0 s' ∧ gi s' 21 = nI (D % 1000) ∧ ∀ q, q < D % 1000 → ga s' 15 q = nI (f (v q)).1 := by
    intro d
    induction d with
    | zero =>
      intro fu i s hi hfu hs hg21 hp
      obtain ⟨fu, rfl⟩ : ∃ f', fu = f' + 1 := ⟨fu - 1, by omega⟩
      have e : i = D % 1000 := by omega
      rw [LX4_choose_82, if_pos (nI_le (by omega) (by omega))]
      exact ⟨s, rfl, hs, by rw [hg21, e], fun q hq => hp q (by omega)⟩
    | succ d ih =>
      intro fu i s hi hfu hs hg21 hp
      obtain ⟨fu, rfl⟩ : ∃ f', fu = f' + 1 := ⟨fu - 1, by omega⟩
      obtain ⟨i1, i2, i3⟩ := inv i (by omega)
      obtain ⟨p1, p2, p3, p4, p5⟩ := stp i (by omega)
      have hsx := h.same hs.p
      have hms := hq.same hs.p (hs.1 17 (by omega)) (hs.2.1 12 (by omega)) (hs.2.1 13 (by omega))
      have ex := Ex.same (c := c) (xs := xs) hs.p
      have e3 := hs.2.1 3 (by omega)
      have e14 := hs.2.1 14 (by omega)
      have onq : ∀ k a, Onw c s xs W k a ↔ Onw c s0 xs W k a := fun k a => by unfold Onw; rw [ex, e3, e14]
      have hon : Onw c s0 xs W (v i) (f (v i)).1 := ⟨_, p2, p3, p4⟩
      have eo : f_X4_leastOnward n s (nI (v i)) = some (nI (f (v i)).1) := by
        rcases onward_C hn hsx hms i1 with ⟨z1, _⟩ | ⟨a, ha, z1, z2, z3⟩
        · exact absurd ((onq _ _).mpr hon) (z1 _ p1)
        · rw [z3]
          rcases Nat.lt_or_ge a (f (v i)).1 with l | l
          · exact absurd ((onq _ _).mp z1) (p5 a l)
          · rcases Nat.lt_or_ge (f (v i)).1 a with l2 | l2
            · exact absurd ((onq _ _).mpr hon) (z2 _ l2)
            · rw [show a = (f (v i)).1 by omega]
      rw [LX4_choose_82, if_neg (nI_ge (by omega) (by omega)), if_neg (show ¬ (300 : Int32) ≤ nI i from nI_ge (b := 300) (by omega) (by omega)), if_neg (nI_nm1 (by omega)), eo, bd_e, if_neg (nI_nm1 (by omega)), ck_n i rfl (by omega) (by omega), nI_clamp (by omega), nI_p1]
      simp only [lt_e]
      have hs2 : Sam15 s0 (si (sa s 15 (upd (ga s 15) i (nI (f (v i)).1))) 21 (nI (i + 1))) := by
        refine ⟨fun k hk => ?_, fun a ha => ?_, hs.2.2⟩
        · rw [gi_si, if_neg hk]; exact hs.1 k hk
        · rw [ga_si, ga_sa, if_neg ha]; exact hs.2.1 a ha
      have hsx2 := h.same hs2.p
      have ex2 := Ex.same (c := c) (xs := xs) hs2.p
      have ec : f_X4_comesTo n (si (sa s 15 (upd (ga s 15) i (nI (f (v i)).1))) 21 (nI (i + 1))) (nI (v i)) (nI (f (v i)).1) = some (nI (v (i + 1))) := by
        have p2' := p2
        rw [← ex2] at p2'
        rcases comes_C hn hsx2 i1 p1 with ⟨z, _⟩ | ⟨k', z1, z2⟩
        · exact absurd p2'.2.2.1 z
        · rw [z2, Ed_fun rfl hsx2.2.2.1 hsx2.2.2.2.2.1.2.2.1 z1 p2']
      rw [ec, bd_e]
      refine ih fu (i + 1) _ (by omega) (by omega) hs2 rfl (fun q hq => ?_)
      show upd (ga s 15) i (nI (f (v i)).1) q = _
      rw [ud_s]
      by_cases e : q = i
      · rw [if_pos e, e]
      · rw [if_neg e]; exact hp q (by omega)
  obtain ⟨s', e, r1, r2, r3⟩ := key (D % 1000) n 0 s0 (by omega) (by omega) (Sam15.rf s0) h21 (fun q hq => absurd hq (by omega))
  rw [v0] at e
  refine ⟨s', v, fun i => (f (v i)).1, e, r1, r2, v0, fun i hi => ?_⟩
  obtain ⟨p1, p2, p3, p4, p5⟩ := stp i hi
  exact ⟨r3 i hi, p2, p3, p4, fun a k' ha he z => p5 a ha ⟨k', he, z.1, z.2⟩⟩
theorem RelC.cach {c : Nat} {s s' τ : SC} (h : RelC c s τ) (e : SamP s s') (hC : Cach c s') : RelC c s' τ := by
  obtain ⟨g, ge, gl'⟩ := e
  have i0 := g 0 (by omega); have i1 := g 1 (by omega); have i2 := g 2 (by omega); have i3 := g 3 (by omega); have i4 := g 4 (by omega); have i5 := g 5 (by omega); have i6 := g 6 (by omega)
  have i33 := g 33 (by omega); have i34 := g 34 (by omega); have i35 := g 35 (by omega); have i36 := g 36 (by omega); have i37 := g 37 (by omega); have i38 := g 38 (by omega)
  have a0 := ge 0 (by omega); have a1 := ge 1 (by omega); have a2 := ge 2 (by omega); have a3 := ge 3 (by omega); have a4 := ge 4 (by omega); have a5 := ge 5 (by omega); have a6 := ge 6 (by omega); have a7 := ge 7 (by omega)
  have a17 := ge 17 (by omega); have a18 := ge 18 (by omega); have a19 := ge 19 (by omega); have a20 := ge 20 (by omega)
  obtain ⟨r1, r2, r3, r4, r5, r6, r7, r8, _⟩ := h
  refine ⟨?_, ?_, ?_, ?_, ?_, ?_, ?_, ?_, hC⟩
  · simp only [Num, i1, i2, i3, i4, i6]; exact r1
  · simp only [Tab, a0, a1, a2, a3, a4, a5, a6]; exact r2
  · simp only [WfA, a0, a1, a2, a3, a4, a5, a6, a7]; exact r3
  · rw [i5]; exact r4
  · rw [a17]; exact r5
  · simp only [Trc, i0, a18]; exact r6
  · simp only [Shf, a19, a20, gl']; exact r7
  · simp only [Img, Tab, a0, a1, a2, a3, a4, a5, a6, i33, i34, i35, i36, i37, i38]; exact r8
/-- what both_ok leaves, for the search -/
def Rch (c : Nat) (s : SC) (xs : List Int32) : Prop := gi s 16 = 1 ∧ gi s 15 = 0 ∧ reachS c (ga s 0) (ga s 1) (ga s 2) (gi s 1) = some xs
theorem Rch.same {c : Nat} {s s' : SC} {xs : List Int32} (h : Rch c s xs) (e : SamP s s') : Rch c s' xs := by
  unfold Rch at *
  rw [e.1 16 (by omega), e.1 15 (by omega), e.1 1 (by omega), e.2.1 0 (by omega), e.2.1 1 (by omega), e.2.1 2 (by omega)]; exact h
theorem SX_of {c : Nat} {s τ : SC} {xs : List Int32} (h : RelC c s τ) (hr : Rch c s xs) : SX c s xs := by
  obtain ⟨h16, h15, hx⟩ := hr
  have hC := h.2.2.2.2.2.2.2.2
  rcases hC with ⟨c1, _⟩ | ⟨_, c2, _⟩
  · rw [h16] at c1; exact absurd c1 one_ne
  · unfold ReachP at c2
    rw [hx] at c2
    obtain ⟨p1, p2, p3, p4⟩ := c2
    exact ⟨h.1.2.1, h.1.1, p3, p4, BR_reach hx, p2, fun a ha => (h.2.2.1 a ha).2.2.2.1⟩
theorem ReachP_of {c : Nat} {s : SC} {xs : List Int32} (h : SX c s xs) (hr : Rch c s xs) : ReachP c (ga s 0) (ga s 1) (ga s 2) (gi s 1) (gi s 14) (gi s 15) (ga s 10) (ga s 11) := by
  unfold ReachP
  rw [hr.2.2]
  exact ⟨hr.2.1, h.2.2.2.2.2.1, h.2.2.1, h.2.2.2.1⟩
theorem Msd_of {c N : Nat} {s : SC} {xs : List Int32} {W : Nat → Nat} (e : N = xs.length) (h : MeasP c (ga s 0) (ga s 1) (ga s 2) (ga s 3) N (ga s 10) W (ga s 12) (ga s 13) (gi s 17)) : ∃ o, Msd c s xs W o := by
  subst e
  obtain ⟨p1, p2, p3, p4, p5, p6, o, p7, p8, p9⟩ := h
  exact ⟨o, p1, p2, p3, p4, p5, p6, p7, p8, p9⟩
theorem MeasP_o {c : Nat} {s : SC} {xs : List Int32} {W o : Nat → Nat} (h : Msd c s xs W o) : MeasP c (ga s 0) (ga s 1) (ga s 2) (ga s 3) xs.length (ga s 10) W (ga s 12) (ga s 13) (gi s 17) := by
  obtain ⟨p1, p2, p3, p4, p5, p6, p7, p8, p9⟩ := h
  exact ⟨p1, p2, p3, p4, p5, p6, o, p7, p8, p9⟩
theorem measure_any {n c : Nat} {s : SC} {xs : List Int32} (hn : 1000000 ≤ n) (h : SX c s xs) (hm : gi s 18 = 0 ∨ (gi s 18 = 1 ∧ ∃ W o, Msd c s xs W o)) :
    ∃ s' W o, f_X4_measure n s = some s' ∧ gi s' 18 = 1 ∧ Msd c s' xs W o ∧ SamP s s' ∧ (∀ k, k ≠ 17 → k ≠ 18 → gi s' k = gi s k) := by
  rcases hm with hm | ⟨hm, W, o, hq⟩
  · obtain ⟨s', W, e, hs, hM⟩ := measure_ok hn h hm
    obtain ⟨o, hq⟩ := Msd_of rfl hM
    have e18 : SamP s (si s 18 1) := SamP.i _ (SamP.rf s) (by omega) (by omega)
    exact ⟨s', W, o, e, hs.1 18 (by omega), hq, e18.tr hs.p, fun k h1 h2 => by rw [hs.1 k h1, gi_si, if_neg h2]⟩
  · refine ⟨s, W, o, ?_, hm, hq, SamP.rf s, fun _ _ _ => rfl⟩
    unfold f_X4_measure
    rw [hm, if_neg one_ne]
theorem cach_c {c : Nat} {s τ : SC} {xs : List Int32} (h : RelC c s τ) (hr : Rch c s xs) :
    (gi s 18 = 0 ∧ gi s 19 = 0) ∨ (gi s 18 = 1 ∧ ∃ W o, Msd c s xs W o ∧ (gi s 19 = 0 ∨ (gi s 19 = 1 ∧ ChoP c (ga s 0) (ga s 1) (ga s 2) (ga s 3) xs.length (ga s 10) (gi s 2) W (gi s 20) (gi s 21) (gi s 22) (ga s 15)))) := by
  have hx := SX_of h hr
  have hl := hx.2.2.2.2.1.2.1
  have hC := h.2.2.2.2.2.2.2.2
  rcases hC with ⟨c1, _⟩ | ⟨_, _, c3⟩
  · rw [hr.1] at c1; exact absurd c1 one_ne
  · rcases c3 with c3 | ⟨c4, _, N, W, hN, hrc, hM, hch⟩
    · exact Or.inl c3
    · rw [hx.2.2.2.2.2.1] at hrc
      have e : N = xs.length := ((nI_eq (by omega) (by omega)).mp hrc).symm
      obtain ⟨o, hq⟩ := Msd_of e hM
      rw [e] at hch
      exact Or.inr ⟨c4, W, o, hq, hch⟩
theorem Cach_mk {c : Nat} {s : SC} {xs : List Int32} {W o : Nat → Nat} (hr : Rch c s xs) (hx : SX c s xs) (h18 : gi s 18 = 1) (hq : Msd c s xs W o)
    (hch : gi s 19 = 0 ∨ (gi s 19 = 1 ∧ ChoP c (ga s 0) (ga s 1) (ga s 2) (ga s 3) xs.length (ga s 10) (gi s 2) W (gi s 20) (gi s 21) (gi s 22) (ga s 15))) : Cach c s :=
  Or.inr ⟨hr.1, ReachP_of hx hr, Or.inr ⟨h18, hr.2.1, xs.length, W, hx.2.2.2.2.1.2.1, hx.2.2.2.2.2.1, MeasP_o hq, hch⟩⟩
theorem far_C {n c : Nat} {s τ : SC} {xs : List Int32} (hn : 1000000 ≤ n) (h : RelC c s τ) (hr : Rch c s xs) : ∃ s' W o, f_X4_measure n s = some s' ∧ RelC c s' τ ∧ SX c s' xs ∧ Rch c s' xs ∧ Msd c s' xs W o ∧ SamP s s' := by
  have hx := SX_of h hr
  obtain ⟨s', W, o, e, p1, p2, p3, p4⟩ := measure_any hn hx (by
    rcases cach_c h hr with ⟨z, _⟩ | ⟨z, W, o, z2, _⟩
    · exact Or.inl z
    · exact Or.inr ⟨z, W, o, z2⟩)
  rcases cach_c h hr with ⟨z1, z2⟩ | ⟨z1, W2, o2, z2, z3⟩
  · exact ⟨s', W, o, e, h.cach p3 (Cach_mk (hr.same p3) (hx.same p3) p1 p2 (Or.inl (by rw [p4 19 (by omega) (by omega)]; exact z2))), hx.same p3, hr.same p3, p2, p3⟩
  · have e2 : f_X4_measure n s = some s := by unfold f_X4_measure; rw [z1, if_neg one_ne]
    exact ⟨s, W2, o2, e2, h, hx, hr, z2, SamP.rf s⟩
theorem choose_C {n c : Nat} {s τ : SC} {xs : List Int32} (hn : 1000000 ≤ n) (h : RelC c s τ) (hr : Rch c s xs) : ∃ s' W o, f_X4_choose n s (gi s 2) = some s' ∧ RelC c s' τ ∧ SX c s' xs ∧ Rch c s' xs ∧ Msd c s' xs W o ∧
    ChoP c (ga s' 0) (ga s' 1) (ga s' 2) (ga s' 3) xs.length (ga s' 10) (gi s' 2) W (gi s' 20) (gi s' 21) (gi s' 22) (ga s' 15) ∧ SamP s s' := by
  have hx := SX_of h hr
  have hl := hx.2.2.2.2.1.2.1
  unfold f_X4_choose
  have hc := cach_c h hr
  by_cases h19 : gi s 19 = 0
  · rw [if_pos h19, lt_e]
    have s1 : SamP s (si s 19 1) := SamP.i _ (SamP.rf s) (by omega) (by omega)
    obtain ⟨s3, W, o, e3, p1, p2, p3, p4⟩ := measure_any hn (hx.same s1) (by
      rcases hc with ⟨z, _⟩ | ⟨z, W, o, z2, _⟩
      · exact Or.inl z
      · exact Or.inr ⟨z, W, o, z2.same s1 rfl rfl rfl⟩)
    have s3' := s1.tr p3
    have hx3 := hx.same s3'
    have e19 : gi s3 19 = 1 := p4 19 (by omega) (by omega)
    have e2 : gi s3 2 = gi s 2 := s3'.1 2 (by omega)
    rw [e3, bd_e]
    have p2' := p2
    obtain ⟨q1, q2, q3, q4, q5, q6, q7, q8, q9⟩ := p2'
    rcases leastG_C hn hx3 p2 (gi s 2) with ⟨z1, z2⟩ | ⟨g, g1, g2, g3, g4⟩
    · rw [z2, bd_e, jn_e, if_pos rfl]
      dsimp only
      rw [zb_0, lt_e, lt_e, lt_e, if_pos (show gi (si (si (si s3 20 0) 21 0) 22 0) 20 = 0 from rfl)]
      have sF : SamP s3 (si (si (si s3 20 0) 21 0) 22 0) := SamP.i _ (SamP.i _ (SamP.i _ (SamP.rf s3) (by omega) (by omega)) (by omega) (by omega)) (by omega) (by omega)
      have hqF : Msd c (si (si (si s3 20 0) 21 0) 22 0) xs W o := p2.same sF rfl rfl rfl
      have hch : ChoP c (ga (si (si (si s3 20 0) 21 0) 22 0) 0) (ga (si (si (si s3 20 0) 21 0) 22 0) 1) (ga (si (si (si s3 20 0) 21 0) 22 0) 2) (ga (si (si (si s3 20 0) 21 0) 22 0) 3) xs.length (ga (si (si (si s3 20 0) 21 0) 22 0) 10) (gi (si (si (si s3 20 0) 21 0) 22 0) 2) W (gi (si (si (si s3 20 0) 21 0) 22 0) 20) (gi (si (si (si s3 20 0) 21 0) 22 0) 21) (gi (si (si (si s3 20 0) 21 0) 22 0) 22) (ga (si (si (si s3 20 0) 21 0) 22 0) 15) := by
        refine Or.inl ⟨rfl, fun k hk => ?_⟩
        show ¬ sub (gi s3 2) (ga s3 10 k)
        rw [e2]; exact z1 k hk
      have sA := s3'.tr sF
      exact ⟨_, W, o, rfl, h.cach sA (Cach_mk (hr.same sA) (hx.same sA) p1 hqF (Or.inr ⟨e19, hch⟩)), hx.same sA, hr.same sA, hqF, hch, sA⟩
    · have hb := q6 g g1
      rw [g4, bd_e, jn_e, if_neg (nI_nm1 (by omega))]
      dsimp only
      rw [zb_1, lt_e, lt_e, lt_e, if_neg (show ¬ gi (si (si (si s3 20 1) 21 0) 22 0) 20 = 0 from one_ne)]
      have sF : SamP s3 (si (si (si s3 20 1) 21 0) 22 0) := SamP.i _ (SamP.i _ (SamP.i _ (SamP.rf s3) (by omega) (by omega)) (by omega) (by omega)) (by omega) (by omega)
      have hqF : Msd c (si (si (si s3 20 1) 21 0) 22 0) xs W o := p2.same sF rfl rfl rfl
      have hxF := hx3.same sF
      generalize hS : si (si (si s3 20 1) 21 0) 22 0 = sf at *
      have f10 : ga sf 10 = ga s3 10 := by rw [← hS]; rfl
      have f20 : gi sf 20 = 1 := by rw [← hS]; rfl
      have f21 : gi sf 21 = 0 := by rw [← hS]; rfl
      have f19 : gi sf 19 = 1 := by rw [← hS]; exact e19
      have f18 : gi sf 18 = 1 := by rw [← hS]; exact p1
      have f2 : gi sf 2 = gi s 2 := by rw [← hS]; exact e2
      unfold f_X4_markBest
      have e17 : gi sf 17 - 1 = nI xs.length + (-1) := by
        rw [hqF.1]
        have hpos := hx.2.2.2.2.1.1
        obtain ⟨m, hm⟩ : ∃ m, xs.length = m + 1 := ⟨xs.length - 1, by omega⟩
        rw [hm, nI_pred, pk_m1]
      rw [lt_e, e17]
      obtain ⟨s4, e4, r1, r2⟩ := mark_C (gg := gi s 2) (D := W g) hn hb.2 xs.length n sf (Nat.le_refl _) (by omega) hxF hqF (fun q hq1 hq2 => absurd hq2 (by omega))
      rw [e4, bd_e, lt_e, lt_e]
      rw [show nI (W g) - nI (W g) / 1000 * 1000 = nI (W g % 1000) from pk_rem (d := 1000) (by omega) (by omega) (by omega), show nI (W g) / 1000 = nI (W g / 1000) from pk_div (d := 1000) (by omega) (by omega) (by omega)]
      have s5 : SamP s4 (si s4 22 (nI (W g / 1000))) := SamP.i _ (SamP.rf s4) (by omega) (by omega)
      have hq5 : Msd c (si s4 22 (nI (W g / 1000))) xs W o := (hqF.same r1.p (r1.1 17) (r1.2.1 12 (by omega)) (r1.2.1 13 (by omega))).same s5 rfl rfl rfl
      have hx5 := (hxF.same r1.p).same s5
      obtain ⟨s6, v, p, e6, t1, t2, t3, t4⟩ := chosen_C (gg := gi s 2) (D := W g) hn hx5 hq5 (fun k hk => r2 k hk) ⟨g, g1, (by show sub (gi s 2) (ga s4 10 g); rw [r1.2.1 10 (by omega), f10]; exact g2), rfl⟩ (by show gi s4 21 = 0; rw [r1.1 21]; exact f21)
      have sA : SamP s s6 := (((s3'.tr sF).tr r1.p).tr s5).tr t1.p
      have hq6 := hq5.same t1.p (t1.1 17 (by omega)) (t1.2.1 12 (by omega)) (t1.2.1 13 (by omega))
      have a10 : ga s6 10 = ga s3 10 := by rw [t1.2.1 10 (by omega)]; show ga s4 10 = _; rw [r1.2.1 10 (by omega), f10]
      have ex6 := Ex.same (c := c) (xs := xs) t1.p
      have e33 := t1.2.1 3 (by omega)
      have i20 : gi s6 20 = 1 := by rw [t1.1 20 (by omega)]; show gi s4 20 = 1; rw [r1.1 20, f20]
      have i22 : gi s6 22 = nI (W g / 1000) := by rw [t1.1 22 (by omega)]; rfl
      have i2 : gi s6 2 = gi s 2 := sA.1 2 (by omega)
      have hch : ChoP c (ga s6 0) (ga s6 1) (ga s6 2) (ga s6 3) xs.length (ga s6 10) (gi s6 2) W (gi s6 20) (gi s6 21) (gi s6 22) (ga s6 15) := by
        right
        refine ⟨i20, W g, ⟨g, g1, by rw [i2, a10]; exact g2, rfl⟩, fun k hk hs => g3 k hk (by rw [i2, a10] at hs; exact hs), i22, t2, fun k => ga s4 14 k ≠ 0, fun k hk => ?_, v, p, t3, fun i hi => ?_⟩
        · have m := r2 k hk
          unfold Mrk Onw at m
          have exk : Ed c (ga s6 0) (ga s6 1) (ga s6 2) xs.length (ga s6 10) = Ex c s4 xs := ex6.trans (Ex.same s5)
          have e10 : ga s4 10 = ga s6 10 := by rw [r1.2.1 10 (by omega), f10, a10]
          have e3' : ga s6 3 = ga s4 3 := e33
          rw [exk, e3', i2, ← e10]
          exact m
        · obtain ⟨u1, u2, u3, u4, u5⟩ := t4 i hi
          have exk : Ed c (ga s6 0) (ga s6 1) (ga s6 2) xs.length (ga s6 10) = Ex c (si s4 22 (nI (W g / 1000))) xs := ex6
          rw [exk, e33]
          exact ⟨u1, u2, u3, u4, fun a k' ha he => u5 a k' ha he⟩
      have i19 : gi s6 19 = 1 := by rw [t1.1 19 (by omega)]; show gi s4 19 = 1; rw [r1.1 19, f19]
      have i18 : gi s6 18 = 1 := by rw [t1.1 18 (by omega)]; show gi s4 18 = 1; rw [r1.1 18, f18]
      exact ⟨s6, W, o, e6, h.cach sA (Cach_mk (hr.same sA) (hx.same sA) i18 hq6 (Or.inr ⟨i19, hch⟩)), hx.same sA, hr.same sA, hq6, hch, sA⟩
  · rcases hc with ⟨_, z⟩ | ⟨z1, W, o, z2, z3⟩
    · exact absurd z h19
    · rcases z3 with z3 | ⟨_, z4⟩
      · exact absurd z3 h19
      · rw [if_neg h19]
        exact ⟨s, W, o, rfl, h, hx, hr, z2, z4, SamP.rf s⟩
