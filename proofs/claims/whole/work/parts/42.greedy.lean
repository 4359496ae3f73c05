/-! steps, greedy, walk -/
theorem ld170 {β : Type} {f : Nat → Int32} {k : Int32 → Option β} : ld f 173 170 k = k (f 170) := ld_n (i := 170) 170 rfl (by omega) (by omega)
theorem ld169 {β : Type} {f : Nat → Int32} {k : Int32 → Option β} : ld f 173 169 k = k (f 169) := ld_n (i := 169) 169 rfl (by omega) (by omega)
theorem ld171 {β : Type} {f : Nat → Int32} {k : Int32 → Option β} : ld f 173 171 k = k (f 171) := ld_n (i := 171) 171 rfl (by omega) (by omega)
/-- one step of a walk, in both -/
theorem step_ok {c t a : Nat} {σ τ : SC} (h : RelC c σ τ) (ht : t < 40) (h0 : gi σ 0 = nI t) (ha : a < c) :
    ∃ σ1 τ1, f_X11_step σ (nI a) = some σ1 ∧ f_X12_does τ (nI a) = some τ1 ∧ RelC c σ1 τ1 ∧ gi σ1 0 = nI (t + 1) := by
  obtain ⟨⟨n1, n2, n3, n4, n5, n6, n7, n8, n9, n10⟩, h2, h3, h4, h5, ⟨t', ht', p1, p2, p3⟩, h7, h8, h9⟩ := h
  have et : t' = t := (nI_eq (by omega) (by omega)).mp (p1.symm.trans h0)
  subst et
  have hta := h2 a ha
  unfold f_X11_step f_X12_does
  rw [has_1 n2 n1 ⟨a, ha, rfl⟩, if_neg one_ne, h0, if_neg (show ¬ (40 : Int32) ≤ nI t' from nI_ge (b := 40) ht (by omega)), after_C (by omega), bd_e, lt_e, ld170, behind_M (by omega), bd_e]
  refine ⟨si (sa (si σ 3 (aft (ga σ 2 a) (ga σ 1 a) (gi σ 3))) 18 (upd (ga σ 18) t' (nI a))) 0 (nI (t' + 1)), si (sa (sa τ 0 (upd (ga τ 0) 170 (aft (ga σ 2 a) (ga σ 1 a) (gi σ 3)))) 13 (upd (ga τ 13) t' (nI a))) 12 (nI (t' + 1)), ?_, ?_, ⟨⟨n1, n2, ?_, ?_, n5, ?_, n7, ?_, s30_aft n9 (h3 a ha).2.1, ?_⟩, h2.upd n1 (k := 170) (by omega) _, h3, h4, h5, ⟨t' + 1, by omega, rfl, rfl, fun i hi => ?_⟩, h7, h8, h9⟩, rfl⟩
  · rw [gi_si, if_neg (by decide), h0, ck_n t' rfl (by omega) (by omega), lt_e, lt_e, nI_clamp (by omega)]
    show some (si (sa (si σ 3 _) 18 (upd (ga σ 18) t' (nI a))) 0 (gi σ 0 + 1)) = _
    rw [h0, nI_1]
  · rw [ck_n (n := 173) (i := 170) 170 rfl (by omega) (by omega), lt_e, gi_sa, p2, ck_n t' rfl (by omega) (by omega), lt_e, lt_e, hta.2.1, hta.2.2.1, ← n8, nI_clamp (show t' < 2 ^ 31 by omega)]
    show some (si (sa (sa τ 0 (upd (ga τ 0) 170 _)) 13 (upd (ga τ 13) t' (nI a))) 12 (gi τ 12 + 1)) = _
    rw [p2, nI_1]
  · show upd (ga τ 0) 170 (aft (ga σ 2 a) (ga σ 1 a) (gi σ 3)) 172 = _
    rw [ud_s, if_neg (by decide)]; exact n3
  · show gi σ 1 = upd (ga τ 0) 170 (aft (ga σ 2 a) (ga σ 1 a) (gi σ 3)) 168
    rw [ud_s, if_neg (by decide)]; exact n4
  · show gi σ 2 = upd (ga τ 0) 170 (aft (ga σ 2 a) (ga σ 1 a) (gi σ 3)) 169
    rw [ud_s, if_neg (by decide)]; exact n6
  · show aft (ga σ 2 a) (ga σ 1 a) (gi σ 3) = upd (ga τ 0) 170 (aft (ga σ 2 a) (ga σ 1 a) (gi σ 3)) 170
    rw [ud_s, if_pos rfl]
  · show gi σ 4 = upd (ga τ 0) 170 (aft (ga σ 2 a) (ga σ 1 a) (gi σ 3)) 171
    rw [ud_s, if_neg (by decide)]; exact n10
  · show upd (ga σ 18) t' (nI a) i = upd (ga τ 13) t' (nI a) i
    rw [ud_s, ud_s]
    by_cases e : i = t'
    · rw [if_pos e, if_pos e]
    · rw [if_neg e, if_neg e]; exact p3 i (by omega)
/-- the trace begins anew -/
theorem RelC.trace0 {c : Nat} {σ τ : SC} (h : RelC c σ τ) : RelC c (si σ 0 0) (si τ 12 0) := by
  obtain ⟨h1, h2, h3, h4, h5, _, h7, h8, h9⟩ := h
  exact ⟨h1, h2, h3, h4, h5, ⟨0, by omega, rfl, rfl, fun i hi => by omega⟩, h7, h8, h9⟩
/-- the best next action -/
theorem best_ok {c n : Nat} (hn : 1000000 ≤ n) {k : Nat} (hk : k ≤ 3) {σ τ : SC} (h : RelC c σ τ) (K : SC → Int32 → Option (Int32 × SC)) :
    ∃ o s t, f_X2_greediest n σ (gi σ 3) (gi σ 2) (nI k) = some (oI o, s) ∧ LX12_greedy_77 n (nI k) K n τ (-1) 200000000 0 = K t (oI o) ∧ SameC σ s ∧ SameM τ t ∧ ∀ a, o = some a → a < c := by
  have h24 := h.1.1
  have hb : (200000000 : Int32) = nI 200000000 := rfl
  have key : ∀ (d f f2 i : Nat) (s t : SC) (o : Option Nat) (y z : Int32), i + d = c → d < f → d < f2 → SameC σ s → SameM τ t → (o = none → z = 200000000) → (∀ a, o = some a → a < c ∧ y = z ∧ ∃ m, m < 200000000 ∧ z = nI m) →
      ∃ o' s' t', LX2_greediest_9 n (gi σ 3) (gi σ 2) (nI k) (fun σ13 w14 => some (w14, σ13)) f s (oI o) y (nI i) = some (oI o', s') ∧ LX12_greedy_77 n (nI k) K f2 t (oI o) z (nI i) = K t' (oI o') ∧ SameC σ s' ∧ SameM τ t' ∧ ∀ a, o' = some a → a < c := by
    intro d
    induction d with
    | zero =>
      intro f f2 i s t o y z hi hf hf2 hs ht h1 h2
      obtain ⟨f, rfl⟩ : ∃ f', f = f' + 1 := ⟨f - 1, by omega⟩
      obtain ⟨f2, rfl⟩ : ∃ f', f2 = f' + 1 := ⟨f2 - 1, by omega⟩
      have hr := (h.sameC hs).sameM ht
      rw [LX2_greediest_9, LX12_greedy_77, hr.1.2.1, if_pos (nI_le (by omega) (by omega)), ld172, hr.1.2.2.1, if_pos (nI_le (by omega) (by omega))]
      exact ⟨o, s, t, rfl, rfl, hs, ht, fun a e => (h2 a e).1⟩
    | succ d ih =>
      intro f f2 i s t o y z hi hf hf2 hs ht h1 h2
      obtain ⟨f, rfl⟩ : ∃ f', f = f' + 1 := ⟨f - 1, by omega⟩
      obtain ⟨f2, rfl⟩ : ∃ f', f2 = f' + 1 := ⟨f2 - 1, by omega⟩
      have hr := (h.sameC hs).sameM ht
      have hic : i < c := by omega
      have hti := hr.2.1 i hic
      have s3 : gi s 3 = gi σ 3 := hs.1 3 (by decide)
      have s2 : gi s 2 = gi σ 2 := hs.1 2 (by decide)
      have t170 : ga t 0 170 = gi σ 3 := by rw [← s3]; exact hr.1.2.2.2.2.2.2.2.1.symm
      rw [LX2_greediest_9, LX12_greedy_77, hr.1.2.1, if_neg (nI_ge hic (by omega)), ld172, hr.1.2.2.1, if_neg (nI_ge hic (by omega)), ld170, t170, allowed_C (by omega), bd_e, mayBe_M (by omega), bd_e, hti.1]
      simp only [jn_e]
      by_cases q : sub (ga s 0 i) (gi σ 3)
      · rw [if_pos q, if_neg one_ne, if_neg one_ne, ld170, t170, after_C (by omega), bd_e, behind_M (by omega), bd_e, hti.2.1, hti.2.2.1]
        have hx : s30 (aft (ga s 2 i) (ga s 1 i) (gi σ 3)) := s30_aft (by rw [← s3]; exact hr.1.2.2.2.2.2.2.2.2.1) (hr.2.2.1 i hic).2.1
        obtain ⟨r, s', t', g1, g2, g3, g4, g5⟩ := guessed_ok hn hr hx hk
        rw [s2] at g1
        rw [g1, bd2_e, g2, bd2_e]
        simp only [lt_e, nI_p1]
        rcases g5 with rfl | ⟨m, hm, rfl⟩
        · simp only [if_true]
          exact ih f f2 (i + 1) s' t' o y z (by omega) (by omega) (by omega) (hs.tr g3) (ht.tr g4) h1 h2
        · simp only [if_neg (nI_nm1 (show m < 2 ^ 31 by omega))]
          rcases o with _ | b
          · rw [if_pos (show oI none = -1 from rfl), h1 rfl, hb, if_neg (nI_ge hm (by omega))]
            rw [if_neg (nI_ge hm (by omega))]
            exact ih f f2 (i + 1) s' t' (some i) (nI m) (nI m) (by omega) (by omega) (by omega) (hs.tr g3) (ht.tr g4) (fun e => by cases e) (fun a e => by cases e; exact ⟨hic, rfl, m, hm, rfl⟩)
          · obtain ⟨w1, w2, w, w3, w4⟩ := h2 b rfl
            subst w2
            rw [if_neg (show ¬ oI (some b) = -1 from nI_nm1 (by omega))]
            by_cases q2 : y ≤ nI m
            · rw [if_pos q2, if_pos q2, if_pos q2]
              exact ih f f2 (i + 1) s' t' (some b) y y (by omega) (by omega) (by omega) (hs.tr g3) (ht.tr g4) h1 h2
            · rw [if_neg q2, if_neg q2, if_neg q2]
              exact ih f f2 (i + 1) s' t' (some i) (nI m) (nI m) (by omega) (by omega) (by omega) (hs.tr g3) (ht.tr g4) (fun e => by cases e) (fun a e => by cases e; exact ⟨hic, rfl, m, hm, rfl⟩)
      · rw [if_neg q]
        simp only [if_true, lt_e, nI_p1]
        exact ih f f2 (i + 1) s t o y z (by omega) (by omega) (by omega) hs ht h1 h2
  have := key c n n 0 σ τ none 0 200000000 (by omega) (by omega) (by omega) (SameC.rf σ) (SameM.rf τ) (fun _ => rfl) (fun a e => by cases e)
  exact this
theorem ag_greedy_ok {n : Nat} (hn : 1000000 ≤ n) : ag_greedy n Rel := by
  rintro σ τ a1 a2 ⟨c, h⟩
  unfold f_X11_greedy f_X12_greedy
  rcases rng (x := a1) (m := 3) 3 rfl (by decide) with ⟨k, hk, rfl, p1, p2, p3⟩ | ⟨p3, p⟩
  rotate_left
  · rw [show f_X11_isGuess a1 = 0 from p3, p3, if_pos rfl, if_pos rfl, RC0, RM0]; exact ⟨_, _, _, rfl, rfl, c, h.ref 0⟩
  rw [show f_X11_isGuess (nI k) = 1 from p3, p3, if_neg one_ne, if_neg one_ne]
  rcases inc_c (x := a2) (lo := 1) (hi := 40) (by decide) (by decide) with ⟨p, m, hm1, hm2, rfl⟩ | ⟨p, q⟩
  rotate_left
  · rw [show f_X12_in a2 1 40 = 0 from p, if_pos rfl, RM5]
    by_cases q0 : a2 < 1
    · rw [if_pos q0, RC5]; exact ⟨_, _, _, rfl, rfl, c, h.ref 5⟩
    · rcases q with q | q
      · exact absurd (show a2 < 1 from q) q0
      · rw [if_neg q0, if_neg (show ¬ a2 ≤ 40 from Int32.not_le.mpr q), RC5]; exact ⟨_, _, _, rfl, rfl, c, h.ref 5⟩
  rw [show f_X12_in (nI m) 1 40 = 1 from p, if_neg one_ne, if_neg (show ¬ nI m < 1 from nI_nlt (b := 1) hm1 (by omega)), if_pos (show nI m ≤ 40 from nI_le (b := 40) hm2 (by omega)), lt_e, lt_e]
  have key : ∀ (d f f2 t : Nat) (s u : SC), t + d = m → d < f → d < f2 → RelC c s u → gi s 0 = nI t → ∃ r s' u', LX11_greedy_38 n (nI k) (nI m) (fun σ11 => some ((gi σ11 0), σ11)) f s (nI t) = some (r, s') ∧ LX12_greedy_37 n (nI k) (nI m) (fun σ26 => some ((gi σ26 12), σ26)) f2 u = some (r, u') ∧ RelC c s' u' := by
    intro d
    induction d with
    | zero =>
      intro f f2 t s u htm hf hf2 hr h0
      obtain ⟨f, rfl⟩ : ∃ f', f = f' + 1 := ⟨f - 1, by omega⟩
      obtain ⟨f2, rfl⟩ : ∃ f', f2 = f' + 1 := ⟨f2 - 1, by omega⟩
      obtain ⟨t', ht', e1, e2, e3⟩ := hr.2.2.2.2.2.1
      have et : gi u 12 = nI t := by rw [e2, ← e1, h0]
      rw [LX11_greedy_38, LX12_greedy_37, et, if_pos (nI_le (by omega) (by omega)), if_pos (nI_le (by omega) (by omega)), h0]
      exact ⟨_, s, u, rfl, rfl, hr⟩
    | succ d ih =>
      intro f f2 t s u htm hf hf2 hr h0
      obtain ⟨f, rfl⟩ : ∃ f', f = f' + 1 := ⟨f - 1, by omega⟩
      obtain ⟨f2, rfl⟩ : ∃ f', f2 = f' + 1 := ⟨f2 - 1, by omega⟩
      obtain ⟨t', ht', e1, e2, e3⟩ := hr.2.2.2.2.2.1
      have et : gi u 12 = nI t := by rw [e2, ← e1, h0]
      rw [LX11_greedy_38, LX12_greedy_37, et, if_neg (nI_ge (by omega) (by omega)), if_neg (nI_ge (by omega) (by omega)), ld170, ld169, ← hr.1.2.2.2.2.2.1, ← hr.1.2.2.2.2.2.2.2.1]
      unfold f_X12_has
      by_cases q : (gi s 2 &&& (gi s 3 ^^^ (-1))) = 0
      · rw [if_pos q, if_pos q, if_neg one_ne, h0]
        exact ⟨_, s, u, rfl, rfl, hr⟩
      · rw [if_neg q, if_neg q, if_pos rfl]
        obtain ⟨o, s', u', g1, g2, g3, g4, g5⟩ := best_ok hn hk hr (fun σ22 w23 => if w23 = (-1) then some ((gi σ22 12), σ22) else bd (f_X12_does σ22 w23) (fun σ25 => LX12_greedy_37 n (nI k) (nI m) (fun σ26 => some ((gi σ26 12), σ26)) f2 σ25))
        rw [g1, bd2_e, g2]
        have hr' := (hr.sameC g3).sameM g4
        have h0' : gi s' 0 = nI t := by rw [g3.1 0 (by decide), h0]
        have et' : gi u' 12 = nI t := by rw [g4.1 12 (by decide), et]
        rcases o with _ | a
        · rw [if_pos (show oI none = -1 from rfl), if_pos (show oI none = -1 from rfl), h0', et']
          exact ⟨_, s', u', rfl, rfl, hr'⟩
        · have hac := g5 a rfl
          have h24 := h.1.1
          rw [if_neg (show ¬ oI (some a) = -1 from nI_nm1 (by omega)), if_neg (show ¬ oI (some a) = -1 from nI_nm1 (by omega))]
          obtain ⟨s2, u2, w1, w2, w3, w4⟩ := step_ok hr' (show t < 40 by omega) h0' hac
          rw [show f_X11_step s' (oI (some a)) = some s2 from w1, show f_X12_does u' (oI (some a)) = some u2 from w2, bd_e, bd_e, lt_e, nI_p1]
          exact ih f f2 (t + 1) s2 u2 (by omega) (by omega) (by omega) w3 w4
  obtain ⟨r, s', u', k1, k2, k3⟩ := key m n n 0 (si σ 0 0) (si τ 12 0) (by omega) (by omega) (by omega) h.trace0 rfl
  exact ⟨r, s', u', k1, k2, c, k3⟩
