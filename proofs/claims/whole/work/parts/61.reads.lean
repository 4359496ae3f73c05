/-! READ: items of sets, no item; the loop; the call -/
theorem it3_set {n c a i z p j jw kc ix jr : Nat} {w : Nat → Int32} {σ τ s t : SC} {ch : Int32} (hn : 1000000 ≤ n) (hC : RdC c a i z p j w σ s) (hT : RdT c a z p j w τ t) (hp : p < z) (hw : w p = ch) (hne : ch ≠ 97) (hjw : jw < 8)
    (hr : (if ch = 115 then 4 else if ch = 103 then 5 else if ch = 110 then 6 else 7) = jr) (hx : (if ch = 115 then 168 else if ch = 103 then 169 else 170) = ix) (hwr : wrq z w false p jr (.inl p) = exq z w 32 (wdq z w jw (.inl p)))
    (hk : kc = 27 ∧ ix = 168 ∨ kc = 28 ∧ ix = 169 ∨ kc = 29 ∧ ix = 170)
    (eC : f_X9_readItem n s = bd2 (f_X9_readSetItem n s jw) (fun v σ9 => some (si (si σ9 kc v) 25 (gi (si σ9 kc v) 25 + 1)))) : It3 n c a i z p j w σ τ s t := by
  obtain ⟨c1, c2, c3, c4, c5, c6, c7, c8, c9, c10, c11⟩ := hC
  obtain ⟨t1, t2, t3, t4, t5⟩ := hT
  have hff : ∀ x : Int32, (false = true) ↔ (ch = 97 ∧ x = 24) := fun x => ⟨fun q => absurd q (by decide), fun q => absurd q.1 hne⟩
  obtain ⟨s1, v, fs, ks, es, gs⟩ := set_C hn c1 c2 hjw
  obtain ⟨x1, e1, k1, f1⟩ := wordL_M (full := false) (u3 := ch) hn t1 t2 (hff _)
  rw [hr, hwr] at k1
  obtain ⟨⟨t', e2, k2, f2⟩, _⟩ := setB_M hn (t1.same f1) k1 hne
  have eT : f_X12_item n t 0 = some t' := by rw [item_e 0 t1 t2, if_pos hp, hw, e1, bd_e, e2]
  have ft : Fr6 t t' := f1.f6.tr f2.f6
  have hkc : 27 ≤ kc ∧ kc ≤ 29 := by omega
  have fF : FrI c s (si (si s1 kc v) 25 (gi (si s1 kc v) 25 + 1)) := ((fs.fi c).tr (FrI.i _ (by omega) (by omega))).tr (FrI.i _ (by omega) (by omega))
  have cS : CSt j z w (si (si s1 kc v) 25 (gi (si s1 kc v) 25 + 1)) := by
    have hcs := c1.same fs
    exact hcs
  refine ⟨si (si s1 kc v) 25 (gi (si s1 kc v) 25 + 1), t', by rw [eC, es, bd2_e], eT, c6.tr fF, t5.tr ft, cS, t1.f6 ft, ?_⟩
  cases hq : (stq z w jw p).1 with
  | inr f =>
    rw [hq] at ks k2
    exact Or.inl ⟨f, (ks.i _ (by omega)).i _ (by omega), k2⟩
  | inl p' =>
    obtain ⟨y, ey, ly⟩ := MN_st z w jw p p' hq
    cases ey
    have hv := gs p' hq
    have sv : s30 v := by rw [hv]; exact fcq_s _
    rw [hq] at ks k2
    have g27 : ∀ k, 26 ≤ k → k ≤ 29 → gi (si (si s1 kc v) 25 (gi (si s1 kc v) 25 + 1)) k = if k = kc then v else gi s k := by
      intro k h1 h2
      rw [gi_si, if_neg (by omega), gi_si, fs.1 k (by omega) (by omega)]
    refine Or.inr ⟨a, p', ly, ⟨cS, (ks.i _ (by omega)).i _ (by omega), ?_, ?_, ?_, c6.tr fF, fun b hb => ?_, ?_, ?_, ?_, c11⟩, ⟨t1.f6 ft, k2, ?_, ?_, t5.tr ft⟩, fun u hu => ?_⟩
    · rw [gi_si, if_neg (by omega), gi_si, if_neg (by omega), fs.1 6 (by omega) (by omega), c3]
    · rw [g27 26 (by omega) (by omega), if_neg (by omega)]; exact c4
    · rw [gi_si, if_pos rfl, gi_si, if_neg (by omega), fs.1 25 (by omega) (by omega), c5, nI_p1]
    · have h := c7 b hb
      unfold WfA at h ⊢
      simp only [ga_si, fs.2.1]
      exact h
    · rw [g27 27 (by omega) (by omega)]; split
      · exact sv
      · exact c8
    · rw [g27 28 (by omega) (by omega)]; split
      · exact sv
      · exact c9
    · rw [g27 29 (by omega) (by omega)]; split
      · exact sv
      · exact c10
    · rw [ft.2.1]; exact t3
    · rw [f2.1 6 (by omega) (by omega) (by omega), f1.1 6 (by omega) (by omega) (by omega), t4]
    · obtain ⟨u1, u2, u3, u4, u5, u6, u7, u8, u9⟩ := hu
      obtain ⟨y1, ey1, ky1, fy1⟩ := wordL_M (full := false) (u3 := ch) hn u1 u2 (hff _)
      rw [hr, hwr] at ky1
      obtain ⟨_, hsec⟩ := setB_M hn (u1.same fy1) ky1 hne
      obtain ⟨y2, eu, ku, fu⟩ := hsec p' hq
      have fyu := fy1.tr fu
      rw [hx, fy1.2.1 0] at eu
      have eT1 : f_X12_item n u 1 = some (sa y2 0 (upd (ga u 0) ix (stq z w jw p).2)) := by rw [item_e 1 u1 u2, if_pos hp, hw, ey1, bd_e, eu]
      have g0 : ∀ x, ga (sa y2 0 (upd (ga u 0) ix (stq z w jw p).2)) 0 x = if x = ix then v else ga u 0 x := fun x => by rw [ga_sa, if_pos rfl, ud_s, hv]
      refine ⟨_, eT1, ?_, ku, ?_, ?_, fun b hb => ?_, ?_, ?_, ?_, ?_⟩
      · have h := u1.same fyu
        unfold MStt at h ⊢
        rw [ga_sa, if_neg (by omega)]; exact h
      · rw [g0, if_neg (by omega)]; exact u3
      · show gi y2 6 = 0; rw [fyu.1 6 (by omega) (by omega) (by omega)]; exact u4
      · have h := u5 b hb
        rw [g0, g0, g0, g0, g0, g0, g0, if_neg (by omega), if_neg (by omega), if_neg (by omega), if_neg (by omega), if_neg (by omega), if_neg (by omega), if_neg (by omega)]
        simp only [ga_si, fs.2.1]
        exact h
      · rw [g0, g27 27 (by omega) (by omega)]
        by_cases q : 168 = ix
        · rw [if_pos q, if_pos (by omega)]
        · rw [if_neg q, if_neg (by omega)]; exact u6
      · rw [g0, g27 28 (by omega) (by omega)]
        by_cases q : 169 = ix
        · rw [if_pos q, if_pos (by omega)]
        · rw [if_neg q, if_neg (by omega)]; exact u7
      · rw [g0, g27 29 (by omega) (by omega)]
        by_cases q : 170 = ix
        · rw [if_pos q, if_pos (by omega)]
        · rw [if_neg q, if_neg (by omega)]; exact u8
      · refine ⟨fun k a b d e => ?_, fun a ha => ?_, fun q => ?_, ?_⟩
        · show gi y2 k = _; rw [fyu.1 k a b d]; exact u9.1 k a b d e
        · rw [ga_sa, if_neg ha, fyu.2.1]; exact u9.2.1 a ha
        · show gl y2 q = _; rw [fyu.2.2]; exact u9.2.2.1 q
        · rw [g0, if_neg (by omega)]; exact u9.2.2.2
theorem it3_no {n c a i z p j : Nat} {w : Nat → Int32} {σ τ s t : SC} (hn : 1000000 ≤ n) (hC : RdC c a i z p j w σ s) (hT : RdT c a z p j w τ t) (hno : ∀ ch : Int32, ch = 97 ∨ ch = 103 ∨ ch = 110 ∨ ch = 115 → ¬ (p < z ∧ w p = ch)) : It3 n c a i z p j w σ τ s t := by
  obtain ⟨c1, c2, c3, c4, c5, c6, c7, c8, c9, c10, c11⟩ := hC
  obtain ⟨t1, t2, t3, t4, t5⟩ := hT
  have hz := c1.2.2.1
  have c2' := c2
  obtain ⟨d1, d2, d3⟩ := c2'
  have nC : ∀ ch : Int32, (ch = 97 ∨ ch = 103 ∨ ch = 110 ∨ ch = 115) → ¬ (if p < z then w p else -1) = ch := by
    intro ch hch
    by_cases q : p < z
    · rw [if_pos q]; exact fun e => hno ch hch ⟨q, e⟩
    · rw [if_neg q]
      rcases hch with e | e | e | e <;> subst e <;> decide
  have nT : ∀ ch : Int32, (ch = 97 ∨ ch = 103 ∨ ch = 110 ∨ ch = 115) → ¬ (if p < z then w p else 0) = ch := by
    intro ch hch
    by_cases q : p < z
    · rw [if_pos q]; exact fun e => hno ch hch ⟨q, e⟩
    · rw [if_neg q]
      rcases hch with e | e | e | e <;> subst e <;> decide
  obtain ⟨s1, e1, k1, f1⟩ := fail_C c2 hz d1
  have eC : f_X9_readItem n s = some (si s1 25 (gi s1 25 + 1)) := by
    unfold f_X9_readItem
    rw [if_pos d3, peek_C c1 d2 d1, bd_e]
    simp only [jn_e, lt_e]
    rw [if_neg (nC 97 (by simp)), if_neg (nC 103 (by simp)), if_neg (nC 110 (by simp)), if_neg (nC 115 (by simp)), d2, e1, bd_e]
  obtain ⟨x1, g1, h1, f2⟩ := wordL_M (full := false) (u3 := if p < z then w p else 0) hn t1 t2 ⟨fun q => absurd q (by decide), fun q => absurd q.1 (nT 97 (by simp))⟩
  rw [if_neg (nT 115 (by simp)), if_neg (nT 103 (by simp)), if_neg (nT 110 (by simp)), wrq_7] at h1
  have e97 : sch 3 0 = 97 := by decide
  have hwd : wdq z w 3 (.inl p) = .inr p := by
    show exq z w (sch 3 2) (exq z w (sch 3 1) (exq z w (sch 3 0) (.inl p))) = _
    rw [e97, exq_n (hno 97 (by simp))]; rfl
  rw [hwd] at h1
  have h1 : MQr z x1 (.inr p) := h1
  have eT : f_X12_item n t 0 = some x1 := by
    rw [item_e 0 t1 t2, g1, bd_e]
    unfold itB
    rw [h1.2.1, if_neg one_ne]
  have hcs := c1.same f1
  exact ⟨_, x1, eC, eT, (c6.tr (f1.fi c)).tr (FrI.i _ (by omega) (by omega)), t5.tr f2.f6, hcs, t1.same f2, Or.inl ⟨p, k1.i _ (by omega), h1⟩⟩
theorem it3 {n c a i z p j : Nat} {w : Nat → Int32} {σ τ s t : SC} (hn : 1000000 ≤ n) (hC : RdC c a i z p j w σ s) (hT : RdT c a z p j w τ t) : It3 n c a i z p j w σ τ s t := by
  have c1 := hC.1
  obtain ⟨d1, d2, d3⟩ := hC.2.1
  have eC : p < z → f_X9_readItem n s = (if w p = 97 then bd (f_X9_readAct n s) (fun σ7 => some (si σ7 25 (gi σ7 25 + 1))) else if w p = 103 then bd2 (f_X9_readSetItem n s 1) (fun v σ9 => some (si (si σ9 28 v) 25 (gi (si σ9 28 v) 25 + 1))) else if w p = 110 then bd2 (f_X9_readSetItem n s 2) (fun v σ9 => some (si (si σ9 29 v) 25 (gi (si σ9 29 v) 25 + 1))) else if w p = 115 then bd2 (f_X9_readSetItem n s 0) (fun v σ9 => some (si (si σ9 27 v) 25 (gi (si σ9 27 v) 25 + 1))) else bd (f_X9_fail s (gi s 23)) (fun σ7 => some (si σ7 25 (gi σ7 25 + 1)))) := by
    intro hp
    unfold f_X9_readItem
    rw [if_pos d3, peek_C c1 d2 d1, bd_e, if_pos hp]
    simp only [jn_e, lt_e]
  rcases Classical.em (∃ ch : Int32, (ch = 97 ∨ ch = 103 ∨ ch = 110 ∨ ch = 115) ∧ p < z ∧ w p = ch) with ⟨ch, hch, hp, hw⟩ | hno
  · have e := eC hp
    rcases hch with q | q | q | q <;> subst q
    · exact it3_act hn hC hT hp hw
    · refine it3_set (jw := 1) (kc := 28) (ix := 169) (jr := 5) hn hC hT hp hw (by decide) (by omega) (by decide) (by decide) (wrq_5 z w p _) (by omega) ?_
      rw [e, hw, if_neg (by decide), if_pos rfl]
    · refine it3_set (jw := 2) (kc := 29) (ix := 170) (jr := 6) hn hC hT hp hw (by decide) (by omega) (by decide) (by decide) (wrq_6 z w p _) (by omega) ?_
      rw [e, hw, if_neg (by decide), if_neg (by decide), if_pos rfl]
    · refine it3_set (jw := 0) (kc := 27) (ix := 168) (jr := 4) hn hC hT hp hw (by decide) (by omega) (by decide) (by decide) (wrq_4 z w p _) (by omega) ?_
      rw [e, hw, if_neg (by decide), if_neg (by decide), if_neg (by decide), if_pos rfl]
  · exact it3_no hn hC hT (fun ch hch hpw => hno ⟨ch, hch, hpw⟩)
/-- the loop over items -/
theorem rd_loop {n c z j : Nat} {w : Nat → Int32} {σ τ : SC} (hn : 1000000 ≤ n) : ∀ (d fC fM y5 a i p : Nat) (s t : SC), z ≤ p + d → d + 1 < fC → d + 1 < fM → y5 ≤ p → RdC c a i z p j w σ s → RdT c a z p j w τ t →
    ∃ s' t' y', LX9_readAll_48 n j (fun σ16 => some σ16) fC s (nI y5) = some s' ∧ LX12_goesThrough_22 n 0 (fun σ12 w13 => some (w13, σ12)) fM t (nI i) = some (y', t') ∧ FrI c σ s' ∧ Fr6 τ t' ∧ 
      ((∃ f, CQ z s' (.inr f) ∧ MQr z t' (.inr f)) ∨ (∃ a' i' p', RdC c a' i' z p' j w σ s' ∧ RdT c a' z p' j w τ t' ∧ ∀ u, RdU c a z p j w τ s u → ∃ u', LX12_goesThrough_22 n 1 (fun σ12 w13 => some (w13, σ12)) fM u (nI i) = some (nI i', u') ∧ RdU c a' z p' j w τ s' u')) := by
  intro d
  induction d with
  | zero =>
    intro fC fM y5 a i p s t h1 h2 h3 h4 hC hT
    obtain ⟨fC, rfl⟩ : ∃ f', fC = f' + 1 := ⟨fC - 1, by omega⟩
    obtain ⟨fM, rfl⟩ : ∃ f', fM = f' + 1 := ⟨fM - 1, by omega⟩
    have c1 := hC.1
    have hz := c1.2.2.1
    obtain ⟨d1, d2, d3⟩ := hC.2.1
    obtain ⟨m1, m2, m3, m4⟩ := hT.2.1
    have t1 := hT.1
    refine ⟨s, t, nI i, ?_, ?_, hC.2.2.2.2.2.1, hT.2.2.2.2, Or.inr ⟨a, i, p, hC, hT, fun u hu => ⟨u, ?_, hu⟩⟩⟩
    · rw [LX9_readAll_48, d3, if_pos rfl, c1.2.2.2.1, d2, if_pos (nI_le (by omega) (by omega))]
      split <;> rfl
    · rw [LX12_goesThrough_22, m3, if_pos rfl, t1.1, ld_n j rfl t1.2.1 (by omega), t1.2.2.2.1, m2, if_pos (nI_le (by omega) (by omega))]
    · obtain ⟨n1, n2, n3, n4⟩ := hu.2.1
      rw [LX12_goesThrough_22, n3, if_pos rfl, hu.1.1, ld_n j rfl t1.2.1 (by omega), hu.1.2.2.2.1, n2, if_pos (nI_le (by omega) (by omega))]
  | succ d ih =>
    intro fC fM y5 a i p s t h1 h2 h3 h4 hC hT
    obtain ⟨fC, rfl⟩ : ∃ f', fC = f' + 1 := ⟨fC - 1, by omega⟩
    obtain ⟨fM, rfl⟩ : ∃ f', fM = f' + 1 := ⟨fM - 1, by omega⟩
    have c1 := hC.1
    have hz := c1.2.2.1
    have cq := hC.2.1
    have mq := hT.2.1
    obtain ⟨d1, d2, d3⟩ := cq
    obtain ⟨m1, m2, m3, m4⟩ := mq
    have t1 := hT.1
    by_cases q : p < z
    · obtain ⟨s1, e1, k1, f1⟩ := expect_C (ch := 59) c1 hC.2.1 (by decide)
      obtain ⟨x1, g1, l1, f2⟩ := must_M (ch := 59) t1 hT.2.1
      have eC : LX9_readAll_48 n j (fun σ16 => some σ16) (fC + 1) s (nI y5) = bd (f_X9_readItem n s1) (fun σ14 => LX9_readAll_48 n j (fun σ16 => some σ16) fC σ14 (nI (y5 + 1))) := by
        rw [LX9_readAll_48, if_neg (show ¬ (160 : Int32) ≤ nI y5 from nI_ge (b := 160) (by omega) (by omega)), d3, if_pos rfl, c1.2.2.2.1, d2, if_neg (nI_ge q (by omega)), e1, bd_e]
        simp only [lt_e, nI_p1]
      have eT : LX12_goesThrough_22 n 0 (fun σ12 w13 => some (w13, σ12)) (fM + 1) t (nI i) = if (gi x1 4) = 0 then bd (f_X12_item n x1 0) (fun σ10 => LX12_goesThrough_22 n 0 (fun σ12 w13 => some (w13, σ12)) fM σ10 (nI (i + 1))) else LX12_goesThrough_22 n 0 (fun σ12 w13 => some (w13, σ12)) fM x1 (nI i) := by
        rw [LX12_goesThrough_22, m3, if_pos rfl, t1.1, ld_n j rfl t1.2.1 (by omega), t1.2.2.2.1, m2, if_neg (nI_ge q (by omega)), g1, bd_e]
        simp only [lt_e, nI_p1]
      rw [eC, eT]
      obtain ⟨fC, rfl⟩ : ∃ f', fC = f' + 1 := ⟨fC - 1, by omega⟩
      obtain ⟨fM, rfl⟩ : ∃ f', fM = f' + 1 := ⟨fM - 1, by omega⟩
      -- at a fault both loops end
      have stopC : ∀ (s2 : SC) (f y : Nat), CQ z s2 (.inr f) → LX9_readAll_48 n j (fun σ16 => some σ16) (fC + 1) s2 (nI y) = some s2 := by
        intro s2 f y hq
        rw [LX9_readAll_48, hq.2, if_neg (nI_nm1 (by have := hq.1; omega))]
        split <;> rfl
      have stopM : ∀ (t2 : SC) (f : Nat) (y : Int32), MQr z t2 (.inr f) → LX12_goesThrough_22 n 0 (fun σ12 w13 => some (w13, σ12)) (fM + 1) t2 y = some (y, t2) := by
        intro t2 f y hq
        rw [LX12_goesThrough_22, hq.2.1, if_neg one_ne]
      by_cases q2 : w p = 59
      · rw [exq_y ⟨q, q2⟩] at k1 l1
        have hC1 : RdC c a i z (p + 1) j w σ s1 := by
          obtain ⟨r1, r2, r3, r4, r5, r6, r7, r8, r9, r10, r11⟩ := hC
          refine ⟨c1.same f1, k1, by rw [f1.1 6 (by omega) (by omega)]; exact r3, by rw [f1.1 26 (by omega) (by omega)]; exact r4, by rw [f1.1 25 (by omega) (by omega)]; exact r5, r6.tr (f1.fi c), fun b hb => ?_, by rw [f1.1 27 (by omega) (by omega)]; exact r8, by rw [f1.1 28 (by omega) (by omega)]; exact r9, by rw [f1.1 29 (by omega) (by omega)]; exact r10, r11⟩
          have h := r7 b hb
          unfold WfA at h ⊢
          simp only [f1.2.1]
          exact h
        have hT1 : RdT c a z (p + 1) j w τ x1 := by
          obtain ⟨r1, r2, r3, r4, r5⟩ := hT
          exact ⟨t1.same f2, l1, by rw [f2.2.1]; exact r3, by rw [f2.1 6 (by omega) (by omega) (by omega)]; exact r4, r5.tr f2.f6⟩
        have hU1 : ∀ u, RdU c a z p j w τ s u → ∃ u1, LX12_goesThrough_22 n 1 (fun σ12 w13 => some (w13, σ12)) (fM + 1 + 1) u (nI i) = bd (f_X12_item n u1 1) (fun σ10 => LX12_goesThrough_22 n 1 (fun σ12 w13 => some (w13, σ12)) (fM + 1) σ10 (nI (i + 1))) ∧ RdU c a z (p + 1) j w τ s1 u1 := by
          intro u hu
          obtain ⟨r1, r2, r3, r4, r5, r6, r7, r8, r9⟩ := hu
          obtain ⟨n1, n2, n3, n4⟩ := r2
          obtain ⟨u1, v1, v2, v3⟩ := must_M (ch := 59) (q := .inl p) r1 ⟨n1, n2, n3, n4⟩
          rw [exq_y ⟨q, q2⟩] at v2
          refine ⟨u1, ?_, r1.same v3, v2, by rw [v3.2.1]; exact r3, by rw [v3.1 6 (by omega) (by omega) (by omega)]; exact r4, fun b hb => ?_, by rw [v3.2.1, f1.1 27 (by omega) (by omega)]; exact r6, by rw [v3.2.1, f1.1 28 (by omega) (by omega)]; exact r7, by rw [v3.2.1, f1.1 29 (by omega) (by omega)]; exact r8, fun k a b d e => by rw [v3.1 k a b d]; exact r9.1 k a b d e, fun a ha => by rw [v3.2.1]; exact r9.2.1 a ha, fun q => by rw [v3.2.2]; exact r9.2.2.1 q, by rw [v3.2.1]; exact r9.2.2.2⟩
          · rw [LX12_goesThrough_22, n3, if_pos rfl, r1.1, ld_n j rfl t1.2.1 (by omega), r1.2.2.2.1, n2, if_neg (nI_ge q (by omega)), v1, bd_e, v2.2.2.1, if_pos rfl]
            simp only [lt_e, nI_p1]
          · rw [v3.2.1, f1.2.1, f1.2.1, f1.2.1, f1.2.1, f1.2.1, f1.2.1, f1.2.1]; exact r5 b hb
        rw [if_pos l1.2.2.1]
        obtain ⟨s2, x2, i1, i2, i3, i4, i5, i6, i7⟩ := it3 hn hC1 hT1
        rw [i1, i2, bd_e, bd_e]
        rcases i7 with ⟨f, b1, b2⟩ | ⟨a', p', b1, b2, b3, b4⟩
        · exact ⟨s2, x2, _, stopC s2 f _ b1, stopM x2 f _ b2, i3, i4, Or.inl ⟨f, b1, b2⟩⟩
        · obtain ⟨s3, x3, y3, j1, j2, j3, j4, j5⟩ := ih (fC + 1) (fM + 1) (y5 + 1) a' (i + 1) p' s2 x2 (by omega) (by omega) (by omega) (by omega) b2 b3
          refine ⟨s3, x3, y3, j1, j2, j3, j4, ?_⟩
          rcases j5 with j5 | ⟨a2, i2', p2, w1, w2, w3⟩
          · exact Or.inl j5
          · refine Or.inr ⟨a2, i2', p2, w1, w2, fun u hu => ?_⟩
            obtain ⟨u1, ue, uR⟩ := hU1 u hu
            obtain ⟨u2, ue2, uR2⟩ := b4 u1 uR
            obtain ⟨u3, ue3, uR3⟩ := w3 u2 uR2
            exact ⟨u3, by rw [ue, ue2, bd_e, ue3], uR3⟩
      · rw [exq_n (fun z => q2 z.2)] at k1 l1
        have eI : f_X9_readItem n s1 = some s1 := by
          unfold f_X9_readItem
          rw [k1.2, if_neg (nI_nm1 (by omega))]
        rw [eI, bd_e, l1.2.1, if_neg one_ne]
        exact ⟨s1, x1, _, stopC s1 p _ k1, stopM x1 p _ l1, hC.2.2.2.2.2.1.tr (f1.fi c), hT.2.2.2.2.tr f2.f6, Or.inl ⟨p, k1, l1⟩⟩
    · refine ⟨s, t, nI i, ?_, ?_, hC.2.2.2.2.2.1, hT.2.2.2.2, Or.inr ⟨a, i, p, hC, hT, fun u hu => ⟨u, ?_, hu⟩⟩⟩
      · rw [LX9_readAll_48, d3, if_pos rfl, c1.2.2.2.1, d2, if_pos (nI_le (by omega) (by omega))]
        split <;> rfl
      · rw [LX12_goesThrough_22, m3, if_pos rfl, t1.1, ld_n j rfl t1.2.1 (by omega), t1.2.2.2.1, m2, if_pos (nI_le (by omega) (by omega))]
      · obtain ⟨n1, n2, n3, n4⟩ := hu.2.1
        rw [LX12_goesThrough_22, n3, if_pos rfl, hu.1.1, ld_n j rfl t1.2.1 (by omega), hu.1.2.2.2.1, n2, if_pos (nI_le (by omega) (by omega))]
