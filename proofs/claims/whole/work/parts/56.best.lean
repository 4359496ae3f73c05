/-! best, bestAt, spell -/
theorem tooMany_sam {n c : Nat} {σ τ s : SC} {v : Int32} (hn : 1000000 ≤ n) (h : RelC c σ τ) (e : f_X11_isTooMany n σ = some (v, s)) : SamR σ s := by
  unfold f_X11_isTooMany at e
  obtain ⟨s0, e0, _, _, _, hs⟩ := explore_ok hn h
  rw [e0, bd_e] at e
  unfold zb at e
  split at e
  · cases e; exact hs
  · cases e
theorem ag_best_ok {n : Nat} (hn : 1000000000000 ≤ n) : ag_best n Rel := by
  rintro σ τ a1 ⟨c, h⟩
  unfold f_X11_best f_X12_best
  rcases rng (x := a1) (m := 1) 1 rfl (by decide) with ⟨k, hk, rfl, p1, p2, p3⟩ | ⟨p3, p⟩
  · rw [p3, if_neg one_ne, if_neg p1, if_neg (show ¬ (1 : Int32) < nI k from nI_nlt (a := 1) (b := k) (by omega) (by omega))]
    obtain ⟨s, t, hr, h16, hb⟩ := both_ok (n := n) (by omega) h
    rcases hb with ⟨e1, e2, _, _⟩ | ⟨e1, e2, xs, hre, h15, h14, hS, hH, hR, hN, hB⟩
    · rw [e1, e2, bd2_e, bd2_e, if_neg one_ne, if_pos rfl, RS4, RB4]; exact ⟨_, _, _, rfl, rfl, c, hr.ref 4⟩
    · rw [e1, e2, bd2_e, bd2_e, if_pos rfl, if_neg one_ne]
      obtain ⟨s', t', f1, _, hr', hc⟩ := planned_ok hn hr ⟨h16, h15, hre⟩ hR hN
      rcases hc with ⟨g1, g2⟩ | ⟨g1, g2, D, d1, d2, d3, d4, d5, d6, _⟩
      · rw [f1, g2, bd_e, bd2_e, g1, if_pos rfl, if_pos rfl]; exact ⟨_, _, _, rfl, rfl, c, hr'⟩
      · rw [f1, g2, bd_e, bd2_e, g1, if_neg one_ne, if_neg one_ne]
        by_cases q : nI k = 0
        · rw [if_pos q, if_pos q, d3, ld_n (i := 0) 0 rfl (by omega) (by omega), d6, show nI D / 1000 = nI (D / 1000) from pk_div (d := 1000) (by omega) (by omega) (by omega)]
          exact ⟨_, _, _, rfl, rfl, c, hr'⟩
        · rw [if_neg q, if_neg q, d4, d5]
          exact ⟨_, _, _, rfl, rfl, c, hr'⟩
  · rw [p3, if_pos rfl, RB4]
    rcases p with p | ⟨p, p'⟩
    · rw [if_pos p, RS4]; exact ⟨_, _, _, rfl, rfl, c, h.ref 4⟩
    · rw [if_neg p, if_pos (Int32.not_le.mp p'), RS4]; exact ⟨_, _, _, rfl, rfl, c, h.ref 4⟩
theorem ag_bestAt_ok {n : Nat} (hn : 1000000000000 ≤ n) : ag_bestAt n Rel := by
  rintro σ τ a1 ⟨c, h⟩
  unfold f_X11_bestAt f_X12_bestAt
  obtain ⟨s, t, hr, h16, hb⟩ := both_ok (n := n) (by omega) h
  rcases hb with ⟨e1, e2, _, _⟩ | ⟨e1, e2, xs, hre, h15, h14, hS, hH, hR, hN, hB⟩
  · rw [e1, e2, bd2_e, bd2_e, if_neg one_ne, if_pos rfl, RS4, RB4]; exact ⟨_, _, _, rfl, rfl, c, hr.ref 4⟩
  · rw [e1, e2, bd2_e, bd2_e, if_pos rfl, if_neg one_ne]
    obtain ⟨s', t', f1, _, hr', hc⟩ := planned_ok hn hr ⟨h16, h15, hre⟩ hR hN
    unfold f_X4_stepAt
    rcases hc with ⟨g1, g2⟩ | ⟨g1, g2, D, d1, d2, d3, d4, d5, d6, d7⟩
    · rw [f1, g2, bd_e, bd2_e, g1, if_pos rfl, if_pos rfl, bd_e]; exact ⟨_, _, _, rfl, rfl, c, hr'⟩
    · rw [f1, g2, bd_e, bd2_e, g1, if_neg one_ne, if_neg one_ne, d4, d5]
      rcases Classical.em (inR a1 (D % 1000)) with q | q
      · have q2 := (inR_iff (by omega)).mp q
        rw [if_neg q2.1, if_neg q2.2, in_1 (by omega) q, if_neg one_ne]
        obtain ⟨i, hi, rfl⟩ := q
        obtain ⟨p, _, z1, z2⟩ := d7 i hi
        rw [ld_n i rfl (by omega) (by omega), ld_n i rfl (by omega) (by omega), z1, z2, bd_e]
        exact ⟨_, _, _, rfl, rfl, c, hr'⟩
      · rw [in_0 (by omega) q, if_pos rfl]
        have : (if a1 < 0 then some (-1 : Int32) else if nI (D % 1000) ≤ a1 then some (-1) else ld (ga s' 15) 300 a1 (fun v1 => some v1)) = some (-1) := by
          by_cases w : a1 < 0
          · rw [if_pos w]
          · rw [if_neg w]
            by_cases w2 : nI (D % 1000) ≤ a1
            · rw [if_pos w2]
            · exact absurd ((inR_iff (by omega)).mpr ⟨w, w2⟩) q
        rw [this, bd_e]
        exact ⟨_, _, _, rfl, rfl, c, hr'⟩
theorem nar8 : ∀ p, p < 24 → ((((nI p).toInt64).toInt32).toInt8.toInt32).toInt64 = (nI p).toInt64 := by decide +kernel
theorem nar16 : ∀ p, p < 24 → ((((nI p).toInt64).toInt32).toInt16.toInt32).toInt64 = (nI p).toInt64 := by decide +kernel
theorem nar32 : ∀ p, p < 24 → (((nI p).toInt64).toInt32).toInt64 = (nI p).toInt64 := by decide +kernel
theorem keepS {σ : SC} {j i k p z : Nat} (hz : z ≤ 160) (hi : i < z) (hk : k < 4) (hp : p < 24) (h19 : ga σ 19 j = nI z) (h20 : ga σ 20 j = nI (100 + k)) (hrow : f_X8_hasRow σ j = 1) : f_X8_keep σ j (nI i) ((nI p).toInt64) = some (sl σ j (vp_updL (gl σ j) i ((nI p).toInt64))) := by
  have es : nI (100 + k) - 100 = nI k := by rw [show (100 : Int32) = nI 100 from rfl, pk_sub (by omega), Nat.add_sub_cancel_left]
  have ek : ∀ {β : Type} (K : Option β), ck 160 (nI i) K = K := fun K => ck_n i rfl (by omega) (by omega)
  have f1 : f_X8_hasElement σ j (nI i) = 1 := by
    rcases elem_c (x := nI i) hz h19 hrow with ⟨_, _, _, f, _⟩ | ⟨_, f⟩
    · exact f
    · rw [in_1 (by omega) ⟨i, hi, rfl⟩] at f; exact absurd f one_ne
  unfold f_X8_keep
  simp only [f1, if_neg one_ne, h20, es, ek, lt_e, nI_clamp (show i < 2 ^ 31 by omega), nar8 p hp, nar16 p hp, nar32 p hp]
  split
  · rfl
  · split
    · rfl
    · split <;> rfl
theorem ag_spell_ok {n : Nat} (hn : 1000000000000 ≤ n) : ag_spell n Rel := by
  rintro σ τ a1 ⟨c, h⟩
  unfold f_X11_spell f_X12_spell
  rcases shelf_c a1 with ⟨j, hj, rfl, e1, e2⟩ | ⟨e1, e2⟩
  · rcases refusal_c hj h.1.1 (h.2.2.2.2.2.2.1 j hj) with ⟨_, _, e3, e4⟩ | ⟨_, e3, e4⟩ | ⟨⟨k, z, hk, hz, p1, p2, p3, p4, p5, p6⟩, e3, e4⟩
    · rw [e3, e4, bd_e, bd_e, if_neg (by decide), if_neg (by decide), RC2, RM2]
      exact ⟨_, _, _, rfl, rfl, c, h.ref 2⟩
    · rw [e3, e4, bd_e, bd_e, if_neg (by decide), if_neg (by decide), RC1, RM1]
      exact ⟨_, _, _, rfl, rfl, c, h.ref 1⟩
    · rw [e3, e4, bd_e, bd_e, if_pos rfl, if_pos rfl]
      obtain ⟨s, t, hr, h16, hb⟩ := both_ok (n := n) (by omega) h
      rcases hb with ⟨e1, e2, _, _⟩ | ⟨e1, e2, xs, hre, h15, h14, hS, hH, hR, hN, hB⟩
      · rw [e1, e2, bd2_e, bd2_e, if_neg one_ne, if_pos rfl, RC4, RM4]; exact ⟨_, _, _, rfl, rfl, c, hr.ref 4⟩
      · have hsR := tooMany_sam (n := n) (by omega) h e1
        rw [e1, e2, bd2_e, bd2_e, if_pos rfl, if_neg one_ne]
        obtain ⟨s', t', f1, hsP, hr', hc⟩ := planned_ok hn hr ⟨h16, h15, hre⟩ hR hN
        rcases hc with ⟨g1, g2⟩ | ⟨g1, g2, D, d1, d2, d3, d4, d5, d6, d7⟩
        · rw [f1, g2, bd_e, bd2_e, g1, if_pos rfl, if_pos rfl, RC4, RM4]; exact ⟨_, _, _, rfl, rfl, c, hr'.ref 4⟩
        · rw [f1, g2, bd_e, bd2_e, g1, if_neg one_ne, if_neg one_ne, ld_n j rfl hj (by omega), ld_n j rfl hj (by omega), d4, d5]
          have s20 : ga s' 20 j = nI (100 + k) := by rw [hsP.2.1 20 (by omega), hsR.2.1 20 (by omega) (by omega)]; exact p1
          have s19 : ga s' 19 j = nI z := by rw [hsP.2.1 19 (by omega), hsR.2.1 19 (by omega) (by omega)]; exact p3
          have srow : f_X8_hasRow s' j = 1 := by
            have := p6
            unfold f_X8_hasRow at this ⊢
            rw [s20]; rw [p1] at this; exact this
          have t4 : ga t' 4 j = nI z := by
            rcases hr'.2.2.2.2.2.2.1 j hj with ⟨u, _⟩ | ⟨a, ha, u, _⟩ | ⟨k', z', _, hz', u, _, u3, u4, _⟩
            · rw [s20] at u; exact absurd u (nI_nm1 (by omega))
            · rw [s20] at u
              have := (nI_eq (by omega) (by have := hr'.1.1; omega)).mp u
              have := hr'.1.1
              omega
            · rw [s19] at u3; rw [u4, u3]
          rw [s19, t4]
          by_cases q : D % 1000 ≤ z
          · rw [if_pos (nI_le q (by omega)), if_pos (nI_le q (by omega))]
            have key : ∀ (d f f2 i : Nat) (u v : SC), i + d = D % 1000 → d < f → d < f2 → RelC c u v → gi u 21 = nI (D % 1000) → gi u 20 = 1 → gi v 9 = nI (D % 1000) → (∀ a, ga u a = ga s' a) → (∀ a, ga v a = ga t' a) →
                ∃ u' v', LX11_spell_86 (nI j) (fun σ15 => some ((gi σ15 21), σ15)) f u (nI i) = some (nI (D % 1000), u') ∧ LX12_spell_59 (nI j) (fun σ16 => some ((gi σ16 9), σ16)) f2 v (nI i) = some (nI (D % 1000), v') ∧ RelC c u' v' := by
              intro d
              induction d with
              | zero =>
                intro f f2 i u v hi hf hf2 hru h21 h20 h9 hu hv
                obtain ⟨f, rfl⟩ : ∃ f', f = f' + 1 := ⟨f - 1, by omega⟩
                obtain ⟨f2, rfl⟩ : ∃ f', f2 = f' + 1 := ⟨f2 - 1, by omega⟩
                rw [LX11_spell_86, LX12_spell_59, h21, h9, if_pos (nI_le (by omega) (by omega)), if_pos (nI_le (by omega) (by omega))]
                exact ⟨u, v, rfl, rfl, hru⟩
              | succ d ih =>
                intro f f2 i u v hi hf hf2 hru h21 h20 h9 hu hv
                obtain ⟨f, rfl⟩ : ∃ f', f = f' + 1 := ⟨f - 1, by omega⟩
                obtain ⟨f2, rfl⟩ : ∃ f', f2 = f' + 1 := ⟨f2 - 1, by omega⟩
                obtain ⟨p, hp, z1, z2⟩ := d7 i (by omega)
                have est : f_X4_stepAt u (nI i) = some (nI p) := by
                  unfold f_X4_stepAt
                  rw [h20, if_neg one_ne, if_neg (nI_pos (by omega)), h21, if_neg (nI_ge (by omega) (by omega)), ld_n i rfl (by omega) (by omega), hu, z1]
                have ekp := keepS (σ := u) (j := j) (i := i) hz (by omega) hk hp (by rw [hu]; exact s19) (by rw [hu]; exact s20) (by unfold f_X8_hasRow at srow ⊢; rw [hu]; exact srow)
                rw [LX11_spell_86, LX12_spell_59, h21, h9, if_neg (nI_ge (by omega) (by omega)), if_neg (nI_ge (by omega) (by omega)), ld_n j rfl hj (by omega), est, bd_e, ekp, bd_e, ld_n i rfl (by omega) (by omega), hv, z2, ix_160, ck_n (160 * j + i) rfl (by omega) (by omega), nI_clamp (by omega)]
                simp only [lt_e, nI_p1]
                exact ih f f2 (i + 1) _ _ (by omega) (by omega) (by omega) (hru.elem hj (by omega) _) h21 h20 h9 hu hv
            obtain ⟨u', v', r1, r2, r3⟩ := key (D % 1000) n n 0 s' t' (by omega) (by omega) (by omega) hr' d4 g1 d5 (fun _ => rfl) (fun _ => rfl)
            exact ⟨_, _, _, r1, r2, c, r3⟩
          · rw [if_neg (nI_ge (by omega) (by omega)), if_neg (nI_ge (by omega) (by omega)), RC6, RM6]
            exact ⟨_, _, _, rfl, rfl, c, hr'.ref 6⟩
  · have e3 : f_X11_refusalOfRow σ a1 = some (-1) := by unfold f_X11_refusalOfRow; rw [e1, if_pos rfl]
    have e4 : f_X12_wanted τ a1 = some (-1) := by unfold f_X12_wanted; rw [e2, if_pos rfl]
    rw [e3, e4, bd_e, bd_e, if_neg (by decide), if_neg (by decide), RC0, RM0]
    exact ⟨_, _, _, rfl, rfl, c, h.ref 0⟩
