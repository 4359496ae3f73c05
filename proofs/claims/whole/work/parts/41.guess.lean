/-! guess -/
theorem guessed_ok {c n : Nat} {σ τ : SC} (hn : 1000000 ≤ n) (h : RelC c σ τ) {x : Int32} (hx : s30 x) {k : Nat} (hk : k ≤ 3) :
    ∃ r s t, f_X2_guessOf n σ x (gi σ 2) (nI k) = some (r, s) ∧ f_X12_guessed n τ x (nI k) = some (r, t) ∧ SameC σ s ∧ SameM τ t ∧ (r = -1 ∨ ∃ m, m < 200000000 ∧ r = nI m) := by
  have hFv : FR = 100000000 := rfl
  have hgo : ga τ 0 169 = gi σ 2 := h.1.2.2.2.2.2.1.symm
  have hg30 := h.1.2.2.2.2.2.2.1
  have hcf := CPFR
  have hF : FR < 2 ^ 30 := by decide
  unfold f_X2_guessOf f_X12_guessed
  rcases (show k = 0 ∨ k = 3 ∨ k = 1 ∨ k = 2 by omega) with rfl | rfl | hk12
  · rw [if_pos (show nI 0 = 0 from rfl), if_pos (show nI 0 = 0 from rfl), ld_n (i := 169) 169 rfl (by omega) (by omega), hgo, countOf_M (by omega), bd_e, bitCount_ok, cb_30 (s30_and hg30)]
    have := cb_le (gi σ 2 &&& (x ^^^ (-1))) 30
    exact ⟨_, _, _, rfl, rfl, SameC.rf σ, SameM.rf τ, Or.inr ⟨_, by omega, rfl⟩⟩
  · rw [if_neg (show ¬ nI 3 = 0 by decide), if_pos (show nI 3 = 3 from rfl), if_neg (show ¬ nI 3 = 0 by decide), if_pos (show nI 3 = 3 from rfl)]
    obtain ⟨s, L, g1, g2, g3, g4, g5, g6, g7⟩ := plan_ok hn h hx
    rw [g1, bd_e]
    rcases g7 with ⟨q1, q2, q3⟩ | ⟨q1, q2, t, q3, q4, q5, q6⟩
    · rw [q1, bd_e, if_pos rfl, q2, if_pos rfl]
      exact ⟨_, _, _, rfl, rfl, g2.same, SameM.rf τ, Or.inl rfl⟩
    · have t0 := q4.2.1 0 (by decide) (by decide) (by decide)
      have htt : TbM c (ga σ 0) (ga σ 1) t := ⟨by rw [t0]; exact (TbM.of h).1, fun a ha => by rw [t0]; exact (TbM.of h).2 a ha⟩
      have htc : TcM c (cn (ga σ 3)) t := fun a ha => by rw [t0]; exact h.tcM a ha
      rw [q1, bd_e, if_neg one_ne, q2, if_neg one_ne, q3, bd2_e, costs_M (show 100 < n by omega) h.1.1 htt htc, bd_e, q6]
      have hb : ∀ m, m ≤ c → csum (cn (ga σ 3)) (gi s 11) m ≤ m * CP := by
        intro m
        induction m with
        | zero => intro _; exact Nat.le_refl _
        | succ m ih =>
          intro hm
          have h1 := ih (by omega)
          have h2 := (h.cost m (by omega)).2.2
          have h3 : (m + 1) * CP = m * CP + CP := by rw [Nat.add_mul, Nat.one_mul]
          show csum (cn (ga σ 3)) (gi s 11) m + _ ≤ _
          split <;> omega
      have hb := hb c (Nat.le_refl c)
      have hb2 : c * CP ≤ 24 * CP := Nat.mul_le_mul_right _ h.1.1
      exact ⟨_, _, _, rfl, rfl, g2.same, q4.same, Or.inr ⟨_, by omega, rfl⟩⟩
  · obtain ⟨sm, hsm⟩ : ∃ sm : Bool, (if nI k = 2 then (1 : Int32) else 0) = b2i sm := by
      rcases hk12 with rfl | rfl
      · exact ⟨false, rfl⟩
      · exact ⟨true, rfl⟩
    have k0 : ¬ nI k = 0 := nI_ne (b := 0) (by omega) (by omega) (by omega)
    have k3 : ¬ nI k = 3 := nI_ne (b := 3) (by omega) (by omega) (by omega)
    have pull : ∀ {β : Type} (J : Int32 → β), (if nI k = 2 then J 1 else J 0) = J (b2i sm) := by
      intro β J
      rw [← hsm]
      by_cases q : nI k = 2
      · rw [if_pos q, if_pos q]
      · rw [if_neg q, if_neg q]
    rw [if_neg k0, if_neg k3, if_neg k0]
    simp only [jn_e, if_neg k3]
    rw [pull (fun u2 => bd (f_X1_settle n σ x u2) (fun σ4 => if (gi σ 2 &&& ((gi σ4 8) ^^^ (-1))) = 0 then bd (f_X1_ofAll n σ4 (gi σ 2)) (fun v6 => some (v6, σ4)) else some ((-1), σ4)))]
    obtain ⟨T, hT, hfix, hmin⟩ := VK_stop (sm := sm) (co := cn (ga σ 3)) (nd := ga σ 0) (mk := ga σ 1) (c := c) (fun a ha => (h.cost a ha).2) (v0_ok x)
    obtain ⟨L, hL, _, hst⟩ := lv_stab (nd := ga σ 0) h.mk30 (w := 0) hx
    have hkr := known_reach (sm := sm) (nd := ga σ 0) (mk := ga σ 1) (fun a ha => (h.cost a ha).2) (fun a ha => (h.2.2.1 a ha).1) hfix hst
    obtain ⟨s, s1, s2, s3, s4⟩ := settle_C (co := cn (ga σ 3)) (show 2000 < n by omega) h.1.1 h.tcC (fun a ha => (h.cost a ha).2) sm hx hT hfix hmin
    have hcome := come_M (show 100 < n by omega) h.1.1 (TbM.of h) h.mk30 hx hgo hst
    have hkn := known_C hg30 s3
    have hsub : sub (gi σ 2) (gi s 8) ↔ sub (gi σ 2) (lv c (ga σ 0) (ga σ 1) 0 x L) := by
      rw [hkn, sub_iff]
      constructor
      · intro hh i _ hb
        have := s30_bit hg30 hb
        exact (hkr i this).mp (hh i this hb)
      · intro hh i hi hb
        exact (hkr i hi).mpr (hh i (by omega) hb)
    rw [s1, bd_e, hcome]
    by_cases q : sub (gi σ 2) (lv c (ga σ 0) (ga σ 1) 0 x L)
    · rw [if_pos (hsub.mpr q), if_pos q, bd_e, if_neg one_ne]
      have hne := hkn.mp (hsub.mpr q)
      rw [ofAll_C (show 100 < n by omega) s3 s4 hne, bd_e]
      obtain ⟨t, t1, t2, t3⟩ := values_M (show 1000 < n by omega) h.1.1 (TbM.of h) h.tcM (fun a ha => (h.cost a ha).2) sm x hT hfix hmin
      have v1 := valueOf_M (τ := t) (show 100 < n by omega) t3 s3.2.2.2.2 sm (gi σ 2)
      have hle : vS sm (VK sm (cn (ga σ 3)) (ga σ 0) (ga σ 1) c (v0 x) T) (gi σ 2) < 200000000 := by
        rcases vS_c (sm := sm) s3.2.2.2.2 (gi σ 2) with ⟨q, _⟩ | ⟨q, _⟩ <;> omega
      refine ⟨_, s, t, rfl, ?_, s2.same, t2.same, Or.inr ⟨_, hle, rfl⟩⟩
      have t0 := t2.2.1 0 (by decide)
      rcases hk12 with rfl | rfl
      · have e : sm = false := by cases sm; rfl; exact absurd hsm (by decide)
        subst e
        rw [if_neg (by decide), show f_X12_values n τ x 0 = some t from t1, bd_e, ld_n (i := 169) 169 rfl (by omega) (by omega), t0, hgo, if_neg (by decide), show f_X12_valueOf n t (gi σ 2) 0 = _ from v1]; rfl
      · have e : sm = true := by cases sm; exact absurd hsm (by decide); rfl
        subst e
        rw [if_pos (by decide), show f_X12_values n τ x 1 = some t from t1, bd_e, ld_n (i := 169) 169 rfl (by omega) (by omega), t0, hgo, if_pos (by decide), show f_X12_valueOf n t (gi σ 2) 1 = _ from v1]; rfl
    · rw [if_neg (fun hh => q (hsub.mp hh)), if_neg q, bd_e, if_pos rfl]
      exact ⟨_, _, _, rfl, rfl, s2.same, SameM.rf τ, Or.inl rfl⟩
theorem ag_guess_ok {n : Nat} (hn : 1000000 ≤ n) : ag_guess n Rel := by
  rintro σ τ a1 a2 ⟨c, h⟩
  unfold f_X11_guess f_X12_guess
  have hgs : (∃ k, k ≤ 3 ∧ a2 = nI k ∧ f_X11_isGuess a2 = 1 ∧ f_X12_in a2 0 3 = 1) ∨ (f_X11_isGuess a2 = 0 ∧ f_X12_in a2 0 3 = 0) := by
    rcases rng (x := a2) (m := 3) 3 rfl (by decide) with ⟨k, hk, rfl, p1, p2, p3⟩ | ⟨p3, p⟩
    · exact Or.inl ⟨k, hk, rfl, p3, p3⟩
    · exact Or.inr ⟨p3, p3⟩
  rcases hgs with ⟨k, hk, rfl, e1, e2⟩ | ⟨e1, e2⟩
  rotate_left
  · rw [e1, e2, if_pos rfl, if_pos rfl, RS0, RB0]; exact ⟨_, _, _, rfl, rfl, c, h.ref 0⟩
  rw [e1, e2, if_neg one_ne, if_neg one_ne]
  rcases set_c a1 with ⟨s1, e1, e2⟩ | ⟨e1, e2⟩
  rotate_left
  · rw [e1, e2, if_pos rfl, if_pos rfl, RS5, RB5]; exact ⟨_, _, _, rfl, rfl, c, h.ref 5⟩
  rw [e1, e2, if_neg one_ne, if_neg one_ne]
  obtain ⟨r, s, t, g1, g2, g3, g4, _⟩ := guessed_ok hn h s1 hk
  rw [g1, g2, bd2_e, bd2_e]
  exact ⟨_, _, _, rfl, rfl, c, (h.sameC g3).sameM g4⟩
