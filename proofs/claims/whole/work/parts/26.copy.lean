/-! show, copy -/
theorem ag_show_ok (n : Nat) : ag_show n Rel := by
  rintro σ τ a1 a2 ⟨c, h⟩
  unfold f_X11_show f_X12_show
  have h24 := h.1.1
  rcases shelf_c a1 with ⟨j, hj, rfl, e1, e2⟩ | ⟨e1, e2⟩
  · rw [e1, e2, if_neg one_ne, if_neg one_ne]
    simp only [jn_e]
    repeat rw [ld_n j rfl hj (by omega)]
    have ek : ∀ {β : Type} (K : Option β), ck 8 (nI j) K = K := fun K => ck_n j rfl hj (by omega)
    unfold f_X8_holdAction
    simp only [ek, lt_e, bd_e, nI_clamp (show j < 2 ^ 31 by omega)]
    have go : ∀ (x y z : Int32) (a : Nat), ((x = -1 ∧ y = -1) ∨ (a < c ∧ x = nI a ∧ y = 4 ∧ z = nI a)) → RelC c (sa (sa σ 20 (upd (ga σ 20) j x)) 19 (upd (ga (sa σ 20 (upd (ga σ 20) j x)) 19) j 0)) (sa (sa τ 3 (upd (ga τ 3) j y)) 4 (upd (ga (sa τ 3 (upd (ga τ 3) j y)) 4) j z)) := by
      intro x y z a hx
      refine h.shelves (fun _ => rfl) (fun a h1 h2 => ?_) (fun _ => rfl) (fun a h1 h2 => ?_) (fun j' hj' => ?_)
      · simp only [ga_sa, if_neg h1, if_neg h2]
      · simp only [ga_sa, if_neg h1, if_neg h2]
      · by_cases e : j' = j
        · subst e
          rcases hx with ⟨rfl, rfl⟩ | ⟨g1, rfl, rfl, rfl⟩
          · refine Or.inl ⟨?_, ?_⟩
            · simp [ga_sa, ud_s]
            · simp [ga_sa, ud_s]
          · refine Or.inr (Or.inl ⟨a, g1, ?_, ?_, ?_⟩)
            · simp [ga_sa, ud_s]
            · simp [ga_sa, ud_s]
            · simp [ga_sa, ud_s]
        · refine (h.2.2.2.2.2.2.1 j' hj').same ?_ ?_ ?_ ?_ (fun i hi => rfl) (fun i hi => rfl)
          · simp [ga_sa, ud_s, e]
          · simp [ga_sa, ud_s, e]
          · simp [ga_sa, ud_s, e]
          · simp [ga_sa, ud_s, e]
    by_cases q : a2 = -1
    · subst q
      simp only [if_true]
      exact ⟨_, _, _, rfl, rfl, c, go (-1) (-1) 0 0 (Or.inl ⟨rfl, rfl⟩)⟩
    · simp only [if_neg q]
      rcases Classical.em (inR a2 c) with ha | ha
      · rw [has_1 h.1.2.1 h24 ha, isAct_1 h.1.2.2.1 h24 ha, bd_e, if_neg one_ne, if_neg one_ne]
        obtain ⟨a, hac, rfl⟩ := ha
        exact ⟨_, _, _, rfl, rfl, c, go (nI a) 4 (nI a) a (Or.inr ⟨hac, rfl, rfl, rfl⟩)⟩
      · rw [has_0 h.1.2.1 h24 ha, isAct_0 h.1.2.2.1 h24 ha, bd_e, if_pos rfl, if_pos rfl, RC0, RM0]
        exact ⟨_, _, _, rfl, rfl, c, h.ref 0⟩
  · rw [e1, e2, if_pos rfl, if_pos rfl, RC0, RM0]
    exact ⟨_, _, _, rfl, rfl, c, h.ref 0⟩
theorem stretch_c {σ : SC} {j n m : Nat} {x : Int32} (hn : n ≤ 160) (hm : m < 2 ^ 31) (h1 : ga σ 19 j = nI n) (h2 : f_X8_hasRow σ j = 1) :
    (∃ x', x = nI x' ∧ x' + m ≤ n ∧ f_X8_hasStretch σ j x (nI m) = 1 ∧ ¬ x < 0 ∧ lg_cmp (x.toInt64 + (nI m).toInt64) ((nI n).toInt64) ≤ 0 ∧ ¬ 0 < lg_cmp (x.toInt64 + (nI m).toInt64) ((nI n).toInt64)) ∨
    (f_X8_hasStretch σ j x (nI m) = 0 ∧ (x < 0 ∨ (¬ x < 0 ∧ 0 < lg_cmp (x.toInt64 + (nI m).toInt64) ((nI n).toInt64) ∧ ¬ lg_cmp (x.toInt64 + (nI m).toInt64) ((nI n).toInt64) ≤ 0))) := by
  unfold f_X8_hasStretch
  rw [h2, h1, if_neg one_ne]
  by_cases q : x < 0
  · exact Or.inr ⟨by rw [if_pos q], Or.inl q⟩
  · obtain ⟨y, hy, rfl⟩ := nI_of q
    rw [if_neg q, if_neg (nI_pos hm), nI_l hy, nI_l hm, nI_l (by omega), lN_add, lg_cmp_le, lg_cmp_gt, pk_lLT (by omega) (by omega), pk_lLE (by omega) (by omega)]
    by_cases q2 : y + m ≤ n
    · refine Or.inl ⟨y, rfl, q2, ?_, q, q2, by omega⟩
      rw [if_neg (nI_nlt (by omega) (by omega)), pk_sub (by omega), if_neg (nI_nlt (by omega) (by omega))]
    · refine Or.inr ⟨?_, Or.inr ⟨q, by omega, q2⟩⟩
      by_cases q3 : n < y
      · rw [if_pos (nI_lt q3 hy)]
      · rw [if_neg (nI_nlt (by omega) (by omega)), pk_sub (by omega), if_pos (nI_lt (by omega) hm)]
def cp1 (j x m : Nat) (τ : SC) : SC := fo (fun i z => sl z 1 (vp_updL (gl z 1) i (gl z 0 (160 * j + x + i)))) m τ
def cp2 (j y m : Nat) (τ : SC) : SC := fo (fun i z => sl z 0 (vp_updL (gl z 0) (160 * j + y + i) (gl z 1 i))) m τ
theorem cp1_L {j x m n : Nat} (hj : j < 8) (hx : x + m ≤ 160) (K : SC → Option (Int32 × SC)) (hn : 160 < n) (τ : SC) : LX12_copy_187 (nI j) (nI x) (nI m) K n τ 0 = K (cp1 j x m τ) := by
  refine (loop_fo (L := fun f i z => LX12_copy_187 (nI j) (nI x) (nI m) K f z (nI i)) (K := K) (g := fun i z => sl z 1 (vp_updL (gl z 1) i (gl z 0 (160 * j + x + i)))) (c := m) (n := n) (x := τ) (fun _ _ => True) (by omega) trivial ?_ ?_).1
  · intro f z _
    exact if_pos (nI_le (Nat.le_refl m) (by omega))
  · intro f i z hi _
    refine ⟨?_, trivial⟩
    show (if nI m ≤ nI i then _ else _) = _
    rw [if_neg (nI_ge hi (by omega)), ix_160, nI_add, ld_n (160 * j + x + i) rfl (by omega) (by omega), ck_n i rfl (by omega) (by omega), nI_clamp (by omega), nI_p1]
    rfl
theorem cp1_p (j x m : Nat) (τ : SC) : (∀ k, gi (cp1 j x m τ) k = gi τ k) ∧ (∀ a, ga (cp1 j x m τ) a = ga τ a) ∧ (∀ y, gl (cp1 j x m τ) 0 y = gl τ 0 y) ∧ ∀ i, i < m → gl (cp1 j x m τ) 1 i = gl τ 0 (160 * j + x + i) := by
  refine fo_inv (fun k z => (∀ k, gi z k = gi τ k) ∧ (∀ a, ga z a = ga τ a) ∧ (∀ y, gl z 0 y = gl τ 0 y) ∧ ∀ i, i < k → gl z 1 i = gl τ 0 (160 * j + x + i)) ⟨fun _ => rfl, fun _ => rfl, fun _ => rfl, fun i hi => absurd hi (by omega)⟩ ?_
  rintro i z hi ⟨i1, i2, i3, i4⟩
  refine ⟨i1, i2, i3, fun y hy => ?_⟩
  simp only [gl_sl, if_true, udL_s, i3]
  by_cases q : y = i
  · subst q; rw [if_pos rfl]
  · rw [if_neg q, i4 y (by omega)]
theorem cp2_L {j x m n : Nat} (hj : j < 8) (hx : x + m ≤ 160) (K : SC → Option (Int32 × SC)) (hn : 160 < n) (τ : SC) : LX12_copy_225 (nI j) (nI x) (nI m) K n τ 0 = K (cp2 j x m τ) := by
  refine (loop_fo (L := fun f i z => LX12_copy_225 (nI j) (nI x) (nI m) K f z (nI i)) (K := K) (g := fun i z => sl z 0 (vp_updL (gl z 0) (160 * j + x + i) (gl z 1 i))) (c := m) (n := n) (x := τ) (fun _ _ => True) (by omega) trivial ?_ ?_).1
  · intro f z _
    exact if_pos (nI_le (Nat.le_refl m) (by omega))
  · intro f i z hi _
    refine ⟨?_, trivial⟩
    show (if nI m ≤ nI i then _ else _) = _
    rw [if_neg (nI_ge hi (by omega)), ix_160, nI_add, ld_n i rfl (by omega) (by omega), ck_n (160 * j + x + i) rfl (by omega) (by omega), nI_clamp (by omega), nI_p1]
    rfl
theorem cp2_p (j x m : Nat) (τ : SC) : (∀ k, gi (cp2 j x m τ) k = gi τ k) ∧ (∀ a, ga (cp2 j x m τ) a = ga τ a) ∧ (∀ y, gl (cp2 j x m τ) 1 y = gl τ 1 y) ∧ ∀ y, gl (cp2 j x m τ) 0 y = if 160 * j + x ≤ y ∧ y < 160 * j + x + m then gl τ 1 (y - (160 * j + x)) else gl τ 0 y := by
  refine fo_inv (fun k z => (∀ k, gi z k = gi τ k) ∧ (∀ a, ga z a = ga τ a) ∧ (∀ y, gl z 1 y = gl τ 1 y) ∧ ∀ y, gl z 0 y = if 160 * j + x ≤ y ∧ y < 160 * j + x + k then gl τ 1 (y - (160 * j + x)) else gl τ 0 y) ⟨fun _ => rfl, fun _ => rfl, fun _ => rfl, fun y => by rw [if_neg (by omega)]⟩ ?_
  rintro i z hi ⟨i1, i2, i3, i4⟩
  refine ⟨i1, i2, i3, fun y => ?_⟩
  simp only [gl_sl, if_true, udL_s, i3, i4]
  by_cases q : y = 160 * j + x + i
  · rw [if_pos q, if_pos (by omega), show y - (160 * j + x) = i by omega]
  · rw [if_neg q]
    by_cases q2 : 160 * j + x ≤ y ∧ y < 160 * j + x + i
    · rw [if_pos q2, if_pos (by omega)]
    · rw [if_neg q2, if_neg (by omega)]
/-- the kinds of two shelves, as copy judges them -/
theorem ag_copy_ok {n : Nat} (hn : 1000000 ≤ n) : ag_copy n Rel := by
  rintro σ τ a1 a2 a3 a4 a5 ⟨c, h⟩
  unfold f_X11_copy f_X12_copy f_X11_refusalOfTwoRows
  have h24 := h.1.1
  rcases shelf_c a1 with ⟨j, hj, rfl, e1, e2⟩ | ⟨e1, e2⟩
  · rcases shelf_c a2 with ⟨j2, hj2, rfl, e1', e2'⟩ | ⟨e1', e2'⟩
    · rw [e2, e2', if_neg one_ne, if_neg one_ne]
      simp only [jn_e, ld_n (i := nI j) j rfl hj (by omega), ld_n (i := nI j2) j2 rfl hj2 (by omega)]
      rcases refusal_c hj h24 (h.2.2.2.2.2.2.1 j hj) with ⟨s1, s2, s3, _⟩ | ⟨⟨a, s0, s1, s2⟩, s3, _⟩ | ⟨⟨k, z, hk, hz, s1, s2, s5, s6, s7, s8⟩, s3, _⟩
      · rcases refusal_c hj2 h24 (h.2.2.2.2.2.2.1 j2 hj2) with ⟨r1, r2, r3, _⟩ | ⟨⟨b, r0, r1, r2⟩, r3, _⟩ | ⟨⟨k2, z2, hk2, hz2, r1, r2, r5, r6, r7, r8⟩, r3, _⟩
        · rw [s3, r3, s2, r2]
          refine ⟨-3, rfC σ 2, rfM τ 2, ?_, ?_, c, h.ref 2⟩
          · simp [bd_e, bd2_e, RC2]
          · simp [bd2_e, RM2]
        · rw [s3, r3, s2, r2]
          refine ⟨-2, rfC σ 1, rfM τ 1, ?_, ?_, c, h.ref 1⟩
          · simp [bd_e, bd2_e, RC1]
          · simp [bd2_e, RM1]
        · rw [s3, r3, s2, r2, if_neg (show ¬ nI k2 = (4 : Int32) from nI_ne (b := 4) (by omega) (by omega) (by omega))]
          refine ⟨-3, rfC σ 2, rfM τ 2, ?_, ?_, c, h.ref 2⟩
          · simp [bd_e, bd2_e, RC2]
          · simp [bd2_e, RM2]
      · have g : f_X11_refusalOfRow σ (nI j2) = some (-2) ∨ f_X11_refusalOfRow σ (nI j2) = some (-3) ∨ f_X11_refusalOfRow σ (nI j2) = some 0 := by
          rcases refusal_c hj2 h24 (h.2.2.2.2.2.2.1 j2 hj2) with ⟨_, _, r3, _⟩ | ⟨_, r3, _⟩ | ⟨_, r3, _⟩
          · exact Or.inr (Or.inl r3)
          · exact Or.inl r3
          · exact Or.inr (Or.inr r3)
        refine ⟨-2, rfC σ 1, rfM τ 1, ?_, ?_, c, h.ref 1⟩
        · rw [s3]
          rcases g with g | g | g
          · rw [g]; simp [bd_e, bd2_e, RC1]
          · rw [g]; simp [bd_e, bd2_e, RC1]
          · rw [g]; simp [bd_e, bd2_e, RC1]
        · rw [s2]; simp [bd2_e, RM1]
      · have nk : ¬ nI k = (4 : Int32) := nI_ne (b := 4) (by omega) (by omega) (by omega)
        have nm := nI_nm1 (a := k) (by omega)
        rcases refusal_c hj2 h24 (h.2.2.2.2.2.2.1 j2 hj2) with ⟨r1, r2, r3, _⟩ | ⟨⟨b, r0, r1, r2⟩, r3, _⟩ | ⟨⟨k2, z2, hk2, hz2, r1, r2, r5, r6, r7, r8⟩, r3, _⟩
        · rw [s3, r3, s2, r2, if_neg nk, if_neg nm]
          refine ⟨-3, rfC σ 2, rfM τ 2, ?_, ?_, c, h.ref 2⟩
          · simp [bd_e, bd2_e, RC2]
          · simp [bd2_e, RM2, nm]
        · rw [s3, r3, s2, r2, if_neg nk]
          refine ⟨-2, rfC σ 1, rfM τ 1, ?_, ?_, c, h.ref 1⟩
          · simp [bd_e, bd2_e, RC1]
          · simp [bd2_e, RM1]
        · have nk2 : ¬ nI k2 = (4 : Int32) := nI_ne (b := 4) (by omega) (by omega) (by omega)
          have nm2 := nI_nm1 (a := k2) (by omega)
          rw [s3, r3, s2, r2, s1, r1, if_neg nk, if_neg nk2, if_neg nm, if_neg nm2]
          by_cases qk : k = k2
          · subst qk
            simp only [bd_e, if_true, show ((0 : Int32) = -1) = False from by decide, show ((0 : Int32) = -2) = False from by decide, show ((0 : Int32) = -3) = False from by decide, if_false, if_neg nm]
            by_cases q5 : 0 ≤ a5
            · rw [if_pos q5, if_pos q5]
              obtain ⟨m, hm, rfl⟩ := nI_of (Int32.not_lt.mpr q5)
              rw [s6, r6]
              rcases stretch_c (x := a3) hz hm s5 s8 with ⟨x, rfl, t1, t2, t3, t4, t5⟩ | ⟨t2, t3⟩
              · rw [t2, if_neg one_ne, if_neg t3, if_neg t5]
                rcases stretch_c (x := a4) hz2 hm r5 r8 with ⟨y, rfl, u1, u2, u3, u4, u5⟩ | ⟨u2, u3⟩
                · rw [u2, if_neg one_ne, if_neg u3, if_pos u4, cp1_L hj (by omega) _ (by omega), cp2_L hj2 (by omega) _ (by omega)]
                  refine ⟨1, sl σ j2 (va_cpy (gl σ j) (gl σ j2) x y m), cp2 j2 y m (cp1 j x m τ), ?_, rfl, c, ?_⟩
                  · unfold cp
                    rw [nI_clamp (by omega), nI_clamp (by omega), nI_clamp (by omega), if_pos ⟨t3, u3, nI_pos hm, by omega, by omega⟩]
                    rfl
                  · obtain ⟨w1, w2, w3, w4⟩ := cp1_p j x m τ
                    obtain ⟨v1, v2, v3, v4⟩ := cp2_p j2 y m (cp1 j x m τ)
                    refine h.shelves (fun _ => rfl) (fun _ _ _ => rfl) (fun k => by rw [v1, w1]) (fun a _ _ => by rw [v2, w2]) (fun j' hj' => ?_)
                    by_cases e : j' = j2
                    · subst e
                      refine Or.inr (Or.inr ⟨k, z2, hk, hz2, r1, by rw [v2, w2, r2], r5, by rw [v2, w2, r6], fun i hi => ?_⟩)
                      rw [v4]
                      show _ = (if j' = j' then va_cpy (gl σ j) (gl σ j') x y m else gl σ j') i
                      rw [if_pos rfl]
                      by_cases q : y ≤ i ∧ i < y + m
                      · rw [if_pos (by omega), pk_cpy_in q.1 q.2, w4 _ (by omega), show 160 * j + x + (160 * j' + i - (160 * j' + y)) = 160 * j + (x + (i - y)) by omega, s7 _ (by omega)]
                      · rw [if_neg (by omega), pk_cpy_out (by omega), w3, r7 i hi]
                    · refine (h.2.2.2.2.2.2.1 j' hj').same rfl rfl (by rw [v2, w2]) (by rw [v2, w2]) (fun i hi => ?_) (fun i hi => ?_)
                      · simp [gl_sl, e]
                      · rw [v4, if_neg (by omega), w3]
                · rw [u2, if_pos rfl, RC4]
                  rcases u3 with u3 | ⟨u3, u4, u5⟩
                  · rw [if_pos u3, RM4]; exact ⟨_, _, _, rfl, rfl, c, h.ref 4⟩
                  · rw [if_neg u3, if_neg u5, RM4]; exact ⟨_, _, _, rfl, rfl, c, h.ref 4⟩
              · rw [t2, if_pos rfl, RC4]
                rcases t3 with t3 | ⟨t3, t4, t5⟩
                · rw [if_pos t3, RM4]; exact ⟨_, _, _, rfl, rfl, c, h.ref 4⟩
                · rw [if_neg t3, if_pos t4]
                  by_cases q4 : a4 < 0
                  · rw [if_pos q4, RM4]; exact ⟨_, _, _, rfl, rfl, c, h.ref 4⟩
                  · rw [if_neg q4, RM4]; exact ⟨_, _, _, rfl, rfl, c, h.ref 4⟩
            · rw [if_neg q5, if_neg q5, RC3, RM3]
              exact ⟨_, _, _, rfl, rfl, c, h.ref 3⟩
          · have n1 := nI_ne (a := k) (b := k2) qk (by omega) (by omega)
            have n2 := nI_ne (a := 100 + k) (b := 100 + k2) (by omega) (by omega) (by omega)
            rw [if_neg n1, if_neg n2]
            refine ⟨-2, rfC σ 1, rfM τ 1, ?_, ?_, c, h.ref 1⟩
            · simp [bd_e, bd2_e, RC1]
            · simp [bd2_e, RM1]
    · have f3 : f_X11_refusalOfRow σ a2 = some (-1) := by unfold f_X11_refusalOfRow; rw [e1', if_pos rfl]
      have g : ∃ v, f_X11_refusalOfRow σ (nI j) = some v := by
        rcases refusal_c hj h24 (h.2.2.2.2.2.2.1 j hj) with ⟨_, _, r3, _⟩ | ⟨_, r3, _⟩ | ⟨_, r3, _⟩
        · exact ⟨_, r3⟩
        · exact ⟨_, r3⟩
        · exact ⟨_, r3⟩
      obtain ⟨v, g⟩ := g
      rw [e2, e2', if_neg one_ne, if_pos rfl, f3, g, RM0]
      refine ⟨-1, rfC σ 0, rfM τ 0, ?_, rfl, c, h.ref 0⟩
      simp only [bd_e]
      by_cases q : v = -1
      · rw [if_pos q, bd_e, if_neg (by decide), RC0]; rfl
      · rw [if_neg q, if_true, bd_e, if_neg (by decide), RC0]; rfl
  · have f3 : f_X11_refusalOfRow σ a1 = some (-1) := by unfold f_X11_refusalOfRow; rw [e1, if_pos rfl]
    have g : ∃ v, f_X11_refusalOfRow σ a2 = some v := by
      rcases shelf_c a2 with ⟨j2, hj2, rfl, _, _⟩ | ⟨e1', e2'⟩
      · rcases refusal_c hj2 h24 (h.2.2.2.2.2.2.1 j2 hj2) with ⟨_, _, r3, _⟩ | ⟨_, r3, _⟩ | ⟨_, r3, _⟩
        · exact ⟨_, r3⟩
        · exact ⟨_, r3⟩
        · exact ⟨_, r3⟩
      · exact ⟨-1, by unfold f_X11_refusalOfRow; rw [e1', if_pos rfl]⟩
    obtain ⟨v, g⟩ := g
    rw [e2, if_pos rfl, f3, g, RM0]
    refine ⟨-1, rfC σ 0, rfM τ 0, ?_, rfl, c, h.ref 0⟩
    simp [bd_e, bd2_e, RC0]
