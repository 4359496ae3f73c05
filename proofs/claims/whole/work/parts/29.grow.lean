/-! action, macro -/
def wrC (σ : SC) (c : Nat) (a b d e : Int32) : SC := sa (sa (sa (sa (sa (sa (sa (sa σ 0 (upd (ga σ 0) c a)) 1 (upd (ga σ 1) c b)) 2 (upd (ga σ 2) c d)) 3 (upd (ga σ 3) c e)) 4 (upd (ga σ 4) c 0)) 5 (upd (ga σ 5) c (-1))) 6 (upd (ga σ 6) c (-1))) 7 (upd (ga σ 7) c 1)
theorem write_C {σ : SC} {c : Nat} (h : c < 24) (a b d e : Int32) : f_X0_write σ (nI c) a b d e = some (wrC σ c a b d e) := by
  unfold f_X0_write
  rw [if_neg (nI_pos (by omega)), if_pos (show nI c < (24 : Int32) from nI_lt (b := 24) h (by omega))]
  simp only [ck_n (i := nI c) c rfl h (by omega), lt_e, nI_clamp (show c < 2 ^ 31 by omega)]
  rfl
def upM (f : Nat → Int32) (c : Nat) (a b d e k x y : Int32) : Nat → Int32 := upd (upd (upd (upd (upd (upd (upd (upd f c a) (24 + c) b) (48 + c) d) (72 + c) e) (96 + c) k) (120 + c) x) (144 + c) y) 172 (f 172 + 1)
theorem comes_M {τ : SC} {c : Nat} (h : c < 24) (hc : ga τ 0 172 = nI c) (a b d e k x y : Int32) : ∃ τ1, f_X12_comes τ a b d e k x y = some (nI c, τ1) ∧ (∀ q, gi τ1 q = gi τ q) ∧ (∀ q, q ≠ 0 → ga τ1 q = ga τ q) ∧ (∀ q, gl τ1 q = gl τ q) ∧ ga τ1 0 = upM (ga τ 0) c a b d e k x y := by
  unfold f_X12_comes
  rw [ld172, hc]
  have c0 : (0 + nI c).toNatClampNeg = c := by rw [nI_z, nI_clamp (by omega)]
  have c24 : (24 + nI c).toNatClampNeg = 24 + c := by rw [show (24 : Int32) + nI c = nI (24 + c) from nI_add 24 c, nI_clamp (by omega)]
  have c48 : (48 + nI c).toNatClampNeg = 48 + c := by rw [show (48 : Int32) + nI c = nI (48 + c) from nI_add 48 c, nI_clamp (by omega)]
  have c72 : (72 + nI c).toNatClampNeg = 72 + c := by rw [show (72 : Int32) + nI c = nI (72 + c) from nI_add 72 c, nI_clamp (by omega)]
  have c96 : (96 + nI c).toNatClampNeg = 96 + c := by rw [show (96 : Int32) + nI c = nI (96 + c) from nI_add 96 c, nI_clamp (by omega)]
  have c120 : (120 + nI c).toNatClampNeg = 120 + c := by rw [show (120 : Int32) + nI c = nI (120 + c) from nI_add 120 c, nI_clamp (by omega)]
  have c144 : (144 + nI c).toNatClampNeg = 144 + c := by rw [show (144 : Int32) + nI c = nI (144 + c) from nI_add 144 c, nI_clamp (by omega)]
  have c172 : (172 : Int32).toNatClampNeg = 172 := by decide
  simp only [ck_n (n := 173) (i := 0 + nI c) c (nI_z c) (show c < 173 by omega) (by omega), ck_n (n := 173) (i := 24 + nI c) (24 + c) (nI_add 24 c) (by omega) (by omega), ck_n (n := 173) (i := 48 + nI c) (48 + c) (nI_add 48 c) (by omega) (by omega), ck_n (n := 173) (i := 72 + nI c) (72 + c) (nI_add 72 c) (by omega) (by omega), ck_n (n := 173) (i := 96 + nI c) (96 + c) (nI_add 96 c) (by omega) (by omega), ck_n (n := 173) (i := 120 + nI c) (120 + c) (nI_add 120 c) (by omega) (by omega), ck_n (n := 173) (i := 144 + nI c) (144 + c) (nI_add 144 c) (by omega) (by omega), ck_n (n := 173) (i := 172) 172 rfl (by omega) (by omega), lt_e, c0, c24, c48, c72, c96, c120, c144, c172, ld172]
  refine ⟨_, rfl, fun _ => rfl, fun q hq => ?_, fun _ => rfl, ?_⟩
  · simp only [ga_sa, if_neg hq]
  · simp only [ga_sa, if_true]
    unfold upM
    congr 1
    simp only [ud_s]
    rw [if_neg (by omega), if_neg (by omega), if_neg (by omega), if_neg (by omega), if_neg (by omega), if_neg (by omega), if_neg (by omega)]
theorem RelC.grow {c : Nat} {σ σ1 τ τ1 : SC} (h : RelC c σ τ) (hc : c < 24) {a b d e k x y : Int32}
    (g1 : ∀ q, q ≠ 6 → q ≠ 16 → q ≠ 18 → q ≠ 19 → gi σ1 q = gi σ q) (g6 : gi σ1 6 = nI (c + 1)) (z : gi σ1 16 = 0 ∧ gi σ1 18 = 0 ∧ gi σ1 19 = 0)
    (a1 : ∀ q, 8 ≤ q → ga σ1 q = ga σ q) (a2 : ∀ q, q < 8 → ∀ i, i ≠ c → ga σ1 q i = ga σ q i) (v : ga σ1 0 c = a ∧ ga σ1 1 c = b ∧ ga σ1 2 c = d ∧ ga σ1 3 c = e ∧ ga σ1 4 c = k ∧ ga σ1 5 c = x ∧ ga σ1 6 c = y) (l1 : ∀ j, gl σ1 j = gl σ j) (wf : WfA σ1 c)
    (t1 : ∀ q, gi τ1 q = gi τ q) (t2 : ∀ q, q ≠ 0 → ga τ1 q = ga τ q) (t3 : ∀ q, gl τ1 q = gl τ q) (t4 : ga τ1 0 = upM (ga τ 0) c a b d e k x y) : RelC (c + 1) σ1 τ1 := by
  obtain ⟨n1, n2, n3, n4, n5, n6, n7, n8, n9, n10⟩ := h.1
  have big : ∀ q, 168 ≤ q → q < 172 → ga τ1 0 q = ga τ 0 q := by
    intro q h1 h2
    rw [t4]
    unfold upM
    simp only [ud_s]
    rw [if_neg (by omega), if_neg (by omega), if_neg (by omega), if_neg (by omega), if_neg (by omega), if_neg (by omega), if_neg (by omega), if_neg (by omega)]
  have gs : ∀ q, q ≠ 6 ∧ q ≠ 16 ∧ q ≠ 18 ∧ q ≠ 19 → gi σ1 q = gi σ q := fun q hq => g1 q hq.1 hq.2.1 hq.2.2.1 hq.2.2.2
  have tabs : ∀ {cc : Nat} {f : Nat → Int32}, cc ≤ c → Tab cc f σ → Tab cc f σ1 := by
    intro cc f hcc ht q hq
    rw [a2 0 (by omega) q (by omega), a2 1 (by omega) q (by omega), a2 2 (by omega) q (by omega), a2 3 (by omega) q (by omega), a2 4 (by omega) q (by omega), a2 5 (by omega) q (by omega), a2 6 (by omega) q (by omega)]
    exact ht q hq
  refine h.table ⟨by omega, g6, ?_, ?_, ?_, ?_, ?_, ?_, ?_, ?_⟩ ?_ (fun q hq => ?_) (gs 0 (by decide)) (gs 5 (by decide)) (a1 17 (by decide)) (a1 18 (by decide)) (t1 5) (t1 12) (t2 2 (by decide)) (t2 13 (by decide)) (fun j hj => ?_) ?_ z
  · rw [t4]; unfold upM; rw [ud_s, if_pos rfl, n3, nI_1]
  · rw [gs 1 (by decide), big 168 (by omega) (by omega), n4]
  · rw [gs 1 (by decide)]; exact n5
  · rw [gs 2 (by decide), big 169 (by omega) (by omega), n6]
  · rw [gs 2 (by decide)]; exact n7
  · rw [gs 3 (by decide), big 170 (by omega) (by omega), n8]
  · rw [gs 3 (by decide)]; exact n9
  · rw [gs 4 (by decide), big 171 (by omega) (by omega), n10]
  · intro q hq
    by_cases e : q = c
    · subst e
      obtain ⟨v0, v1, v2, v3, v4, v5, v6⟩ := v
      rw [t4, v0, v1, v2, v3, v4, v5, v6]
      unfold upM
      simp only [ud_s]
      refine ⟨?_, ?_, ?_, ?_, ?_, ?_, ?_⟩
      · rw [if_neg (by omega), if_neg (by omega), if_neg (by omega), if_neg (by omega), if_neg (by omega), if_neg (by omega), if_neg (by omega), if_true]
      · rw [if_neg (by omega), if_neg (by omega), if_neg (by omega), if_neg (by omega), if_neg (by omega), if_neg (by omega), if_true]
      · rw [if_neg (by omega), if_neg (by omega), if_neg (by omega), if_neg (by omega), if_neg (by omega), if_true]
      · rw [if_neg (by omega), if_neg (by omega), if_neg (by omega), if_neg (by omega), if_true]
      · rw [if_neg (by omega), if_neg (by omega), if_neg (by omega), if_true]
      · rw [if_neg (by omega), if_neg (by omega), if_true]
      · rw [if_neg (by omega), if_true]
    · have ht := tabs (Nat.le_refl c) h.2.1 q (by omega)
      have old : ∀ w, w < 7 → ga τ1 0 (24 * w + q) = ga τ 0 (24 * w + q) := by
        intro w hw
        rw [t4]
        unfold upM
        simp only [ud_s]
        rw [if_neg (by omega), if_neg (by omega), if_neg (by omega), if_neg (by omega), if_neg (by omega), if_neg (by omega), if_neg (by omega), if_neg (by omega)]
      have o0 := old 0 (by omega); have o1 := old 1 (by omega); have o2 := old 2 (by omega); have o3 := old 3 (by omega); have o4 := old 4 (by omega); have o5 := old 5 (by omega); have o6 := old 6 (by omega)
      rw [show 24 * 0 + q = q by omega] at o0
      rw [show 24 * 1 + q = 24 + q by omega] at o1
      rw [show 24 * 2 + q = 48 + q by omega] at o2
      rw [show 24 * 3 + q = 72 + q by omega] at o3
      rw [show 24 * 4 + q = 96 + q by omega] at o4
      rw [show 24 * 5 + q = 120 + q by omega] at o5
      rw [show 24 * 6 + q = 144 + q by omega] at o6
      rw [o0, o1, o2, o3, o4, o5, o6]
      exact ht
  · by_cases e : q = c
    · subst e; exact wf
    · obtain ⟨w1, w2, w3, w4, w5⟩ := h.2.2.1 q (by omega)
      unfold WfA
      rw [a2 0 (by omega) q e, a2 1 (by omega) q e, a2 2 (by omega) q e, a2 3 (by omega) q e, a2 4 (by omega) q e, a2 5 (by omega) q e, a2 6 (by omega) q e, a2 7 (by omega) q e]
      refine ⟨w1, w2, w3, w4, ?_⟩
      rcases w5 with w5 | ⟨i, j, hi, hj, w5⟩
      · exact Or.inl w5
      · refine Or.inr ⟨i, j, hi, hj, ?_⟩
        rw [a2 7 (by omega) i (by omega), a2 7 (by omega) j (by omega)]
        exact w5
  · have hs := (h.2.2.2.2.2.2.1 j hj).same (σ1 := σ1) (τ1 := τ1) (by rw [a1 20 (by decide)]) (by rw [a1 19 (by decide)]) (by rw [t2 3 (by decide)]) (by rw [t2 4 (by decide)]) (fun i _ => by rw [l1]) (fun i _ => by rw [t3])
    rcases hs with hs | ⟨q, hq, hs⟩ | hs
    · exact Or.inl hs
    · exact Or.inr (Or.inl ⟨q, by omega, hs⟩)
    · exact Or.inr (Or.inr hs)
  · rcases h.2.2.2.2.2.2.2.1 with ⟨q1, q2⟩ | ⟨q1, q2, ci, hci, i1, i2, i3, i4⟩
    · exact Or.inl ⟨by rw [gs 33 (by decide), q1], by rw [t1, q2]⟩
    · refine Or.inr ⟨by rw [gs 33 (by decide), q1], by rw [t1, q2], ci, by omega, ?_, ?_, ?_, ?_⟩
      · rw [gs 34 (by decide), i1]
      · rw [t2 1 (by decide), i2]
      · rw [t2 1 (by decide)]; exact tabs hci i3
      · rw [gs 35 (by decide), gs 36 (by decide), gs 37 (by decide), gs 38 (by decide), t2 1 (by decide)]
        exact i4
theorem forget_C (σ : SC) : f_X11_forgetSearch σ = some (si (si (si σ 16 0) 18 0) 19 0) := rfl
def fin1 (s : SC) (c : Nat) : SC := si (si (si (si s 6 (nI (c + 1))) 16 0) 18 0) 19 0
theorem RelC.grow1 {c : Nat} {σ s τ τ1 : SC} (h : RelC c σ τ) (hc : c < 24) {a b d e k x y : Int32}
    (g1 : ∀ q, gi s q = gi σ q) (a1 : ∀ q, 8 ≤ q → ga s q = ga σ q) (a2 : ∀ q, q < 8 → ∀ i, i ≠ c → ga s q i = ga σ q i) (v : ga s 0 c = a ∧ ga s 1 c = b ∧ ga s 2 c = d ∧ ga s 3 c = e ∧ ga s 4 c = k ∧ ga s 5 c = x ∧ ga s 6 c = y) (l1 : ∀ j, gl s j = gl σ j) (wf : WfA s c)
    (t1 : ∀ q, gi τ1 q = gi τ q) (t2 : ∀ q, q ≠ 0 → ga τ1 q = ga τ q) (t3 : ∀ q, gl τ1 q = gl τ q) (t4 : ga τ1 0 = upM (ga τ 0) c a b d e k x y) : RelC (c + 1) (fin1 s c) τ1 := by
  refine h.grow (σ1 := fin1 s c) hc (fun q h1 h2 h3 h4 => ?_) rfl ⟨rfl, rfl, rfl⟩ a1 a2 v l1 wf t1 t2 t3 t4
  unfold fin1
  simp only [gi_si, if_neg h1, if_neg h2, if_neg h3, if_neg h4]
  exact g1 q
theorem wrC_o (σ : SC) (c : Nat) (a b d e : Int32) (q x : Nat) (hx : x ≠ c) : ga (wrC σ c a b d e) q x = ga σ q x := by
  unfold wrC
  simp only [ga_sa]
  by_cases h7 : q = 7
  · subst h7; rw [if_pos rfl, ud_s, if_neg hx]
  rw [if_neg h7]
  by_cases h6 : q = 6
  · subst h6; rw [if_pos rfl, ud_s, if_neg hx]
  rw [if_neg h6]
  by_cases h5 : q = 5
  · subst h5; rw [if_pos rfl, ud_s, if_neg hx]
  rw [if_neg h5]
  by_cases h4 : q = 4
  · subst h4; rw [if_pos rfl, ud_s, if_neg hx]
  rw [if_neg h4]
  by_cases h3 : q = 3
  · subst h3; rw [if_pos rfl, ud_s, if_neg hx]
  rw [if_neg h3]
  by_cases h2 : q = 2
  · subst h2; rw [if_pos rfl, ud_s, if_neg hx]
  rw [if_neg h2]
  by_cases h1 : q = 1
  · subst h1; rw [if_pos rfl, ud_s, if_neg hx]
  rw [if_neg h1]
  by_cases h0 : q = 0
  · subst h0; rw [if_pos rfl, ud_s, if_neg hx]
  rw [if_neg h0]
theorem wrC_8 (σ : SC) (c : Nat) (a b d e : Int32) (q : Nat) (hq : 8 ≤ q) : ga (wrC σ c a b d e) q = ga σ q := by
  unfold wrC; simp only [ga_sa]
  rw [if_neg (by omega), if_neg (by omega), if_neg (by omega), if_neg (by omega), if_neg (by omega), if_neg (by omega), if_neg (by omega), if_neg (by omega)]
theorem ud_t (f : Nat → Int32) (k : Nat) (v : Int32) : upd f k v k = v := pk_us
theorem wrC_v (σ : SC) (c : Nat) (a b d e : Int32) : ga (wrC σ c a b d e) 0 c = a ∧ ga (wrC σ c a b d e) 1 c = b ∧ ga (wrC σ c a b d e) 2 c = d ∧ ga (wrC σ c a b d e) 3 c = e ∧ ga (wrC σ c a b d e) 4 c = 0 ∧ ga (wrC σ c a b d e) 5 c = -1 ∧ ga (wrC σ c a b d e) 6 c = -1 ∧ ga (wrC σ c a b d e) 7 c = 1 :=
  ⟨ud_t (ga σ 0) c a, ud_t (ga σ 1) c b, ud_t (ga σ 2) c d, ud_t (ga σ 3) c e, ud_t (ga σ 4) c 0, ud_t (ga σ 5) c (-1), ud_t (ga σ 6) c (-1), ud_t (ga σ 7) c 1⟩
theorem ag_action_ok (n : Nat) : ag_action n Rel := by
  rintro σ τ a1 a2 a3 a4 ⟨c, h⟩
  have h24 := h.1.1
  unfold f_X11_action f_X12_action
  rcases set_c a1 with ⟨s1, e1, e2⟩ | ⟨e1, e2⟩
  rotate_left
  · rw [e1, e2, if_pos rfl, if_pos rfl, RC5, RM5]; exact ⟨_, _, _, rfl, rfl, c, h.ref 5⟩
  rw [e1, e2, if_neg one_ne, if_neg one_ne]
  rcases set_c a2 with ⟨s2, e1, e2⟩ | ⟨e1, e2⟩
  rotate_left
  · rw [e1, e2, if_pos rfl, if_pos rfl, RC5, RM5]; exact ⟨_, _, _, rfl, rfl, c, h.ref 5⟩
  rw [e1, e2, if_neg one_ne, if_neg one_ne]
  rcases set_c a3 with ⟨s3, e1, e2⟩ | ⟨e1, e2⟩
  rotate_left
  · rw [e1, e2, if_pos rfl, if_pos rfl, RC5, RM5]; exact ⟨_, _, _, rfl, rfl, c, h.ref 5⟩
  rw [e1, e2, if_neg one_ne, if_neg one_ne]
  rcases inc_c (x := a4) (lo := 1) (hi := 99) (by decide) (by decide) with ⟨p, k, hk1, hk2, rfl⟩ | ⟨p, q⟩
  · rw [show f_X12_in (nI k) 1 99 = 1 from p, if_neg one_ne, if_neg (show ¬ nI k < 1 from nI_nlt (b := 1) hk1 (by omega)), if_pos (show nI k ≤ 99 from nI_le (b := 99) hk2 (by omega)), ld172, h.1.2.2.1, h.1.2.1]
    by_cases q : c < 24
    · rw [if_pos (show nI c < (24 : Int32) from nI_lt (b := 24) q (by omega)), if_neg (show ¬ nI c = (24 : Int32) from nI_ne (b := 24) (by omega) (by omega) (by omega)), write_C q, bd_e, lt_e, forget_C, bd_e]
      obtain ⟨τ1, w1, w2, w3, w4, w5⟩ := comes_M q h.1.2.2.1 a1 a2 a3 (nI k) 0 (-1) (-1)
      rw [w1, bd2_e]
      have g6 : gi (wrC σ c a1 a2 a3 (nI k)) 6 = nI c := h.1.2.1
      rw [g6, nI_1]
      refine ⟨nI c, fin1 (wrC σ c a1 a2 a3 (nI k)) c, τ1, ?_, rfl, c + 1, ?_⟩
      · show some (nI (c + 1) - 1, _) = _
        rw [nI_pred]; rfl
      · obtain ⟨v0, v1, v2, v3, v4, v5, v6, v7⟩ := wrC_v σ c a1 a2 a3 (nI k)
        exact h.grow1 q (e := nI k) (fun _ => rfl) (fun q hq => wrC_8 σ c _ _ _ _ q hq) (fun q hq i hi => wrC_o σ c _ _ _ _ q i hi) ⟨v0, v1, v2, v3, v4, v5, v6⟩ (fun _ => rfl) ⟨by rw [v0]; exact s1, by rw [v1]; exact s2, by rw [v2]; exact s3, ⟨k, hk1, hk2, v3⟩, Or.inl ⟨v4, v5, v6, v7⟩⟩ w2 w3 w4 w5
    · rw [if_neg (show ¬ nI c < (24 : Int32) from nI_nlt (b := 24) (by omega) (by omega)), if_pos (show nI c = (24 : Int32) by rw [show c = 24 by omega]; rfl), RC6, RM6]
      exact ⟨_, _, _, rfl, rfl, c, h.ref 6⟩
  · rw [show f_X12_in a4 1 99 = 0 from p, if_pos rfl, RM5]
    rcases q with q | q
    · rw [if_pos (show a4 < 1 from q), RC5]; exact ⟨_, _, _, rfl, rfl, c, h.ref 5⟩
    · by_cases q0 : a4 < 1
      · rw [if_pos q0, RC5]; exact ⟨_, _, _, rfl, rfl, c, h.ref 5⟩
      · rw [if_neg q0, if_neg (show ¬ a4 ≤ 99 from Int32.not_le.mpr q), RC5]; exact ⟨_, _, _, rfl, rfl, c, h.ref 5⟩
def wrJ (σ : SC) (c i j : Nat) (a b d e k : Int32) : SC :=
  sa (sa (sa (sa (wrC σ c a b d e) 4 (upd (ga (wrC σ c a b d e) 4) c k)) 5 (upd (ga (wrC σ c a b d e) 5) c (nI i))) 6 (upd (ga (wrC σ c a b d e) 6) c (nI j))) 7 (upd (ga (wrC σ c a b d e) 7) c (ga σ 7 i + ga σ 7 j))
theorem writeJ_C {σ : SC} {c i j : Nat} (h : c < 24) (hi : i < c) (hj : j < c) : f_X0_writeJoined σ (nI c) (nI i) (nI j) = some (wrJ σ c i j (ga σ 0 i ||| (ga σ 0 j &&& (ga σ 1 i ^^^ (-1)))) ((ga σ 1 i &&& (ga σ 2 j ^^^ (-1))) ||| ga σ 1 j) ((ga σ 2 i &&& (ga σ 1 j ^^^ (-1))) ||| ga σ 2 j) (ga σ 3 i + ga σ 3 j) (if ga σ 4 i = 0 ∧ ga σ 4 j = 0 then 1 else 2)) := by
  unfold f_X0_writeJoined
  rw [if_neg (nI_pos (by omega)), if_pos (show nI c < (24 : Int32) from nI_lt (b := 24) h (by omega))]
  have o : ∀ (a b d e : Int32) (q x : Nat), x < c → ga (wrC σ c a b d e) q x = ga σ q x := fun a b d e q x hx => wrC_o σ c a b d e q x (by omega)
  simp only [ldA (show i < 24 by omega), ldA (show j < 24 by omega), lt_e, write_C h, bd_e, jn_e, ck_n (i := nI c) c rfl h (by omega), nI_clamp (show c < 2 ^ 31 by omega), ga_sa, if_true, o _ _ _ _ 4 i hi, o _ _ _ _ 4 j hj]
  simp only [show ((7 : Nat) = 6) = False from by decide, show ((7 : Nat) = 5) = False from by decide, show ((7 : Nat) = 4) = False from by decide, show ((6 : Nat) = 5) = False from by decide, show ((6 : Nat) = 4) = False from by decide, show ((5 : Nat) = 4) = False from by decide, if_false, o _ _ _ _ 7 i hi, o _ _ _ _ 7 j hj]
  by_cases q1 : ga σ 4 i = 0
  · by_cases q2 : ga σ 4 j = 0
    · simp only [q1, q2, if_true, if_neg one_ne]
      rw [if_pos ⟨trivial, trivial⟩]; rfl
    · simp only [q1, if_neg q2, if_true]
      rw [if_neg (fun h => q2 h.2)]; rfl
  · simp only [if_neg q1, if_true]
    rw [if_neg (fun h => q1 h.1)]; rfl
theorem wrJ_o (σ : SC) (c i j : Nat) (a b d e k : Int32) (q x : Nat) (hx : x ≠ c) : ga (wrJ σ c i j a b d e k) q x = ga σ q x := by
  unfold wrJ
  simp only [ga_sa]
  by_cases h7 : q = 7
  · subst h7; rw [if_pos rfl, ud_s, if_neg hx, wrC_o _ _ _ _ _ _ _ _ hx]
  rw [if_neg h7]
  by_cases h6 : q = 6
  · subst h6; rw [if_pos rfl, ud_s, if_neg hx, wrC_o _ _ _ _ _ _ _ _ hx]
  rw [if_neg h6]
  by_cases h5 : q = 5
  · subst h5; rw [if_pos rfl, ud_s, if_neg hx, wrC_o _ _ _ _ _ _ _ _ hx]
  rw [if_neg h5]
  by_cases h4 : q = 4
  · subst h4; rw [if_pos rfl, ud_s, if_neg hx, wrC_o _ _ _ _ _ _ _ _ hx]
  rw [if_neg h4, wrC_o _ _ _ _ _ _ _ _ hx]
theorem wrJ_8 (σ : SC) (c i j : Nat) (a b d e k : Int32) (q : Nat) (hq : 8 ≤ q) : ga (wrJ σ c i j a b d e k) q = ga σ q := by
  unfold wrJ; simp only [ga_sa]
  rw [if_neg (by omega), if_neg (by omega), if_neg (by omega), if_neg (by omega), wrC_8 _ _ _ _ _ _ _ hq]
theorem wrJ_v (σ : SC) (c i j : Nat) (a b d e k : Int32) : ga (wrJ σ c i j a b d e k) 0 c = a ∧ ga (wrJ σ c i j a b d e k) 1 c = b ∧ ga (wrJ σ c i j a b d e k) 2 c = d ∧ ga (wrJ σ c i j a b d e k) 3 c = e ∧ ga (wrJ σ c i j a b d e k) 4 c = k ∧ ga (wrJ σ c i j a b d e k) 5 c = nI i ∧ ga (wrJ σ c i j a b d e k) 6 c = nI j ∧ ga (wrJ σ c i j a b d e k) 7 c = ga σ 7 i + ga σ 7 j := by
  obtain ⟨v0, v1, v2, v3, _⟩ := wrC_v σ c a b d e
  exact ⟨v0, v1, v2, v3, ud_t (ga (wrC σ c a b d e) 4) c k, ud_t (ga (wrC σ c a b d e) 5) c (nI i), ud_t (ga (wrC σ c a b d e) 6) c (nI j), ud_t (ga (wrC σ c a b d e) 7) c _⟩
theorem ag_macro_ok (n : Nat) : ag_macro n Rel := by
  rintro σ τ a1 a2 ⟨c, h⟩
  have h24 := h.1.1
  have c6 := h.1.2.1
  have c172 := h.1.2.2.1
  unfold f_X11_macro f_X12_macro
  rcases Classical.em (inR a1 c) with ha | ha
  rotate_left
  · rw [has_0 c6 h24 ha, isAct_0 c172 h24 ha, if_pos rfl, bd_e, if_pos rfl, RC0, RM0]; exact ⟨_, _, _, rfl, rfl, c, h.ref 0⟩
  rw [has_1 c6 h24 ha, isAct_1 c172 h24 ha, if_neg one_ne, bd_e, if_neg one_ne]
  rcases Classical.em (inR a2 c) with hb | hb
  rotate_left
  · rw [has_0 c6 h24 hb, isAct_0 c172 h24 hb, if_pos rfl, bd_e, if_pos rfl, RC0, RM0]; exact ⟨_, _, _, rfl, rfl, c, h.ref 0⟩
  rw [has_1 c6 h24 hb, isAct_1 c172 h24 hb, if_neg one_ne, bd_e, if_neg one_ne]
  obtain ⟨i, hi, rfl⟩ := ha
  obtain ⟨j, hj, rfl⟩ := hb
  have hi' : i < 24 := by omega
  have hj' : j < 24 := by omega
  obtain ⟨t0, t1, t2, t3, t4, t5, t6⟩ := h.2.1 i hi
  obtain ⟨r0, r1, r2, r3, r4, r5, r6⟩ := h.2.1 j hj
  obtain ⟨w0, w1, w2, ⟨k, hk1, hk2, w3⟩, w5⟩ := h.2.2.1 i hi
  obtain ⟨u0, u1, u2, ⟨m, hm1, hm2, u3⟩, u5⟩ := h.2.2.1 j hj
  unfold f_X0_canJoin
  simp only [ldA hi', ldA hj', ld00 hi', ld00 hj', ld24 hi', ld24 hj', ld48 hi', ld48 hj', ld72 hi', ld72 hj', ld96 hi', ld96 hj', ld172, lt_e, t0, t1, t2, t3, t4, r0, r1, r2, r3, r4, w3, u3, nI_add, c172, c6]
  by_cases q : (ga σ 2 i &&& (ga σ 1 i ^^^ (-1))) &&& ga σ 0 j = 0
  rotate_left
  · rw [if_neg q, if_neg q, bd_e, if_pos rfl, RC5, RM5]; exact ⟨_, _, _, rfl, rfl, c, h.ref 5⟩
  rw [if_pos q, if_pos q]
  by_cases q2 : k + m ≤ 99
  rotate_left
  · rw [if_pos (show (99 : Int32) < nI (k + m) from nI_lt (a := 99) (by omega) (by omega)), if_neg (show ¬ nI (k + m) ≤ 99 from nI_ge (a := 99) (by omega) (by omega)), bd_e, if_pos rfl, RC5, RM5]; exact ⟨_, _, _, rfl, rfl, c, h.ref 5⟩
  rw [if_neg (show ¬ (99 : Int32) < nI (k + m) from nI_nlt (a := 99) (by omega) (by omega)), if_pos (show nI (k + m) ≤ 99 from nI_le (b := 99) (by omega) (by omega)), bd_e, if_neg one_ne]
  by_cases q3 : c < 24
  rotate_left
  · rw [if_neg (show ¬ nI c < (24 : Int32) from nI_nlt (b := 24) (by omega) (by omega)), if_pos (show nI c = (24 : Int32) by rw [show c = 24 by omega]; rfl), RC6, RM6]
    exact ⟨_, _, _, rfl, rfl, c, h.ref 6⟩
  rw [if_pos (show nI c < (24 : Int32) from nI_lt (b := 24) q3 (by omega)), if_neg (show ¬ nI c = (24 : Int32) from nI_ne (b := 24) (by omega) (by omega) (by omega)), writeJ_C q3 hi hj, bd_e, forget_C, bd_e]
  have kk : ∀ (K : Int32 → Option (Int32 × SC)), (if 0 < ga σ 4 i then K 2 else if ga σ 4 j ≤ 0 then K 1 else K 2) = K (if ga σ 4 i = 0 ∧ ga σ 4 j = 0 then 1 else 2) := by
    intro K
    have ki : ga σ 4 i = 0 ∨ ga σ 4 i = 1 ∨ ga σ 4 i = 2 := by
      rcases w5 with ⟨k4, _⟩ | ⟨_, _, _, _, _, _, _, k4 | k4⟩
      · exact Or.inl k4
      · exact Or.inr (Or.inl k4)
      · exact Or.inr (Or.inr k4)
    have kj : ga σ 4 j = 0 ∨ ga σ 4 j = 1 ∨ ga σ 4 j = 2 := by
      rcases u5 with ⟨k4, _⟩ | ⟨_, _, _, _, _, _, _, k4 | k4⟩
      · exact Or.inl k4
      · exact Or.inr (Or.inl k4)
      · exact Or.inr (Or.inr k4)
    rcases ki with e | e | e
    · rcases kj with e2 | e2 | e2
      · rw [e, e2]; rfl
      · rw [e, e2]; rfl
      · rw [e, e2]; rfl
    · rw [e, if_pos (by decide), if_neg (fun h => absurd h.1 (by decide))]
    · rw [e, if_pos (by decide), if_neg (fun h => absurd h.1 (by decide))]
  rw [kk (fun z => bd2 (f_X12_comes τ _ _ _ _ z _ _) (fun v34 σ33 => some (v34, σ33)))]
  generalize hkd : (if ga σ 4 i = 0 ∧ ga σ 4 j = 0 then (1 : Int32) else 2) = kd
  have hkd' : kd = 1 ∨ kd = 2 := by
    rw [← hkd]
    by_cases q : ga σ 4 i = 0 ∧ ga σ 4 j = 0
    · exact Or.inl (if_pos q)
    · exact Or.inr (if_neg q)
  obtain ⟨τ1, x1, x2, x3, x4, x5⟩ := comes_M q3 c172 (ga σ 0 i ||| (ga σ 0 j &&& (ga σ 1 i ^^^ (-1)))) ((ga σ 1 i &&& (ga σ 2 j ^^^ (-1))) ||| ga σ 1 j) ((ga σ 2 i &&& (ga σ 1 j ^^^ (-1))) ||| ga σ 2 j) (nI (k + m)) kd (nI i) (nI j)
  simp only [x1]
  obtain ⟨v0, v1, v2, v3, v4, v5, v6, v7⟩ := wrJ_v σ c i j (ga σ 0 i ||| (ga σ 0 j &&& (ga σ 1 i ^^^ (-1)))) ((ga σ 1 i &&& (ga σ 2 j ^^^ (-1))) ||| ga σ 1 j) ((ga σ 2 i &&& (ga σ 1 j ^^^ (-1))) ||| ga σ 2 j) (ga σ 3 i + ga σ 3 j) kd
  have oo := wrJ_o σ c i j (ga σ 0 i ||| (ga σ 0 j &&& (ga σ 1 i ^^^ (-1)))) ((ga σ 1 i &&& (ga σ 2 j ^^^ (-1))) ||| ga σ 1 j) ((ga σ 2 i &&& (ga σ 1 j ^^^ (-1))) ||| ga σ 2 j) (ga σ 3 i + ga σ 3 j) kd
  have o8 := wrJ_8 σ c i j (ga σ 0 i ||| (ga σ 0 j &&& (ga σ 1 i ^^^ (-1)))) ((ga σ 1 i &&& (ga σ 2 j ^^^ (-1))) ||| ga σ 1 j) ((ga σ 2 i &&& (ga σ 1 j ^^^ (-1))) ||| ga σ 2 j) (ga σ 3 i + ga σ 3 j) kd
  have og : ∀ q, gi (wrJ σ c i j (ga σ 0 i ||| (ga σ 0 j &&& (ga σ 1 i ^^^ (-1)))) ((ga σ 1 i &&& (ga σ 2 j ^^^ (-1))) ||| ga σ 1 j) ((ga σ 2 i &&& (ga σ 1 j ^^^ (-1))) ||| ga σ 2 j) (ga σ 3 i + ga σ 3 j) kd) q = gi σ q := fun _ => rfl
  have ol : ∀ q, gl (wrJ σ c i j (ga σ 0 i ||| (ga σ 0 j &&& (ga σ 1 i ^^^ (-1)))) ((ga σ 1 i &&& (ga σ 2 j ^^^ (-1))) ||| ga σ 1 j) ((ga σ 2 i &&& (ga σ 1 j ^^^ (-1))) ||| ga σ 2 j) (ga σ 3 i + ga σ 3 j) kd) q = gl σ q := fun _ => rfl
  generalize wrJ σ c i j (ga σ 0 i ||| (ga σ 0 j &&& (ga σ 1 i ^^^ (-1)))) ((ga σ 1 i &&& (ga σ 2 j ^^^ (-1))) ||| ga σ 1 j) ((ga σ 2 i &&& (ga σ 1 j ^^^ (-1))) ||| ga σ 2 j) (ga σ 3 i + ga σ 3 j) kd = s at v0 v1 v2 v3 v4 v5 v6 v7 oo o8 og ol ⊢
  rw [w3, u3, nI_add] at v3
  refine ⟨nI c, fin1 s c, τ1, ?_, rfl, c + 1, h.grow1 q3 (e := nI (k + m)) og o8 (fun q _ i hi => oo q i hi) ⟨v0, v1, v2, v3, v4, v5, v6⟩ ol ⟨?_, ?_, ?_, ⟨k + m, by omega, q2, v3⟩, Or.inr ⟨i, j, hi, hj, v5, v6, ?_, ?_⟩⟩ x2 x3 x4 x5⟩
  · rw [og 6, c6]
    show some (nI c + 1 - 1, _) = _
    rw [nI_1, nI_pred]; rfl
  · rw [v0]; exact s30_or w0 (s30_and u0)
  · rw [v1]; exact s30_or (s30_and w1) u1
  · rw [v2]; exact s30_or (s30_and w2) u2
  · rw [v7, oo 7 i (by omega), oo 7 j (by omega)]
  · rw [v4]; exact hkd'
