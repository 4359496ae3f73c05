/-! SHELVES: row, set, copy, element, show, holds -/
theorem le_s {x : Int32} {k : Nat} (hk : k + 1 < 2 ^ 31) : x ≤ nI k ↔ ¬ nI (k + 1) ≤ x := by
  rw [Int32.le_iff_toInt_le, Int32.le_iff_toInt_le, nI_toInt (by omega), nI_toInt hk]; omega
theorem rng {x m : Int32} (c : Nat) (hm : m = nI c) (hc : c + 1 < 2 ^ 30) : (∃ j, j ≤ c ∧ x = nI j ∧ ¬ x < 0 ∧ x ≤ m ∧ f_X12_in x 0 m = 1) ∨ (f_X12_in x 0 m = 0 ∧ (x < 0 ∨ (¬ x < 0 ∧ ¬ x ≤ m))) := by
  subst hm
  unfold f_X12_in
  by_cases h0 : x < 0
  · exact Or.inr ⟨if_pos h0, Or.inl h0⟩
  · by_cases h1 : x ≤ nI c
    · obtain ⟨j, hj, rfl⟩ := nI_of h0
      have hjc : j ≤ c := (nI_leI hj (by omega)).mp h1
      exact Or.inl ⟨j, hjc, rfl, h0, h1, by rw [if_neg h0, if_neg (nI_nlt hjc (by omega))]⟩
    · refine Or.inr ⟨?_, Or.inr ⟨h0, h1⟩⟩
      rw [if_neg h0, if_pos (Int32.not_le.mp h1)]
theorem RelC.shelves {c : Nat} {σ σ1 τ τ1 : SC} (h : RelC c σ τ) (g1 : ∀ k, gi σ1 k = gi σ k) (a1 : ∀ a, a ≠ 19 → a ≠ 20 → ga σ1 a = ga σ a) (g2 : ∀ k, gi τ1 k = gi τ k) (a2 : ∀ a, a ≠ 3 → a ≠ 4 → ga τ1 a = ga τ a) (sh : ∀ j, j < 8 → Shf c σ1 τ1 j) : RelC c σ1 τ1 := by
  have b0 := a1 0 (by decide) (by decide); have b1 := a1 1 (by decide) (by decide); have b2 := a1 2 (by decide) (by decide); have b3 := a1 3 (by decide) (by decide); have b4 := a1 4 (by decide) (by decide); have b5 := a1 5 (by decide) (by decide); have b6 := a1 6 (by decide) (by decide); have b7 := a1 7 (by decide) (by decide)
  have b10 := a1 10 (by decide) (by decide); have b11 := a1 11 (by decide) (by decide); have b12 := a1 12 (by decide) (by decide); have b13 := a1 13 (by decide) (by decide); have b15 := a1 15 (by decide) (by decide); have b17 := a1 17 (by decide) (by decide); have b18 := a1 18 (by decide) (by decide)
  have c0 := a2 0 (by decide) (by decide); have c1 := a2 1 (by decide) (by decide); have c2 := a2 2 (by decide) (by decide); have c13 := a2 13 (by decide) (by decide)
  obtain ⟨h1, h2, h3, h4, h5, h6, h7, h8, h9⟩ := h
  simp only [Num, Tab, WfA, Trc, Img, Cach, ← g1, ← g2, ← b0, ← b1, ← b2, ← b3, ← b4, ← b5, ← b6, ← b7, ← b10, ← b11, ← b12, ← b13, ← b15, ← b17, ← b18, ← c0, ← c1, ← c2, ← c13] at h1 h2 h3 h4 h5 h6 h8 h9
  exact ⟨h1, h2, h3, h4, h5, h6, sh, h8, h9⟩
theorem Shf.same {c : Nat} {σ τ σ1 τ1 : SC} {j : Nat} (h : Shf c σ τ j) (e20 : ga σ1 20 j = ga σ 20 j) (e19 : ga σ1 19 j = ga σ 19 j) (e3 : ga τ1 3 j = ga τ 3 j) (e4 : ga τ1 4 j = ga τ 4 j) (el : ∀ i, i < 160 → gl σ1 j i = gl σ j i) (em : ∀ i, i < 160 → gl τ1 0 (160 * j + i) = gl τ 0 (160 * j + i)) : Shf c σ1 τ1 j := by
  unfold Shf
  rw [e20, e19, e3, e4]
  rcases h with h | h | ⟨k, n, h1, h2, h3, h4, h5, h6, h7⟩
  · exact Or.inl h
  · exact Or.inr (Or.inl h)
  · exact Or.inr (Or.inr ⟨k, n, h1, h2, h3, h4, h5, h6, fun i hi => by rw [el i (by omega), em i (by omega), h7 i hi]⟩)
theorem ix_160 (j i : Nat) : (160 : Int32) * nI j + nI i = nI (160 * j + i) := by
  rw [show (160 : Int32) = nI 160 from rfl, pk_mul, nI_add]
def zeroRow (j : Nat) (τ : SC) : SC := fo (fun i x => sl x 0 (vp_updL (gl x 0) (160 * j + i) 0)) 160 τ
theorem row_L {j n : Nat} (hj : j < 8) (K : SC → Option (Int32 × SC)) (hn : 160 < n) (τ : SC) : LX12_row_71 (nI j) K n τ 0 = K (zeroRow j τ) := by
  refine (loop_fo (L := fun f i x => LX12_row_71 (nI j) K f x (nI i)) (K := K) (g := fun i x => sl x 0 (vp_updL (gl x 0) (160 * j + i) 0)) (c := 160) (n := n) (x := τ) (fun _ _ => True) hn trivial ?_ ?_).1
  · intro f x _
    exact if_pos (nI_le (Nat.le_refl 160) (by omega))
  · intro f i x hi _
    refine ⟨?_, trivial⟩
    show (if (160 : Int32) ≤ nI i then _ else _) = _
    rw [if_neg (show ¬ (160 : Int32) ≤ nI i from nI_ge (b := 160) hi (by omega)), ix_160, ck_n (160 * j + i) rfl (by omega) (by omega), nI_clamp (by omega), nI_p1]
    rfl
theorem zeroRow_p (j : Nat) (τ : SC) : (∀ k, gi (zeroRow j τ) k = gi τ k) ∧ (∀ a, ga (zeroRow j τ) a = ga τ a) ∧ ∀ y, gl (zeroRow j τ) 0 y = if 160 * j ≤ y ∧ y < 160 * j + 160 then 0 else gl τ 0 y := by
  refine fo_inv (fun i x => (∀ k, gi x k = gi τ k) ∧ (∀ a, ga x a = ga τ a) ∧ ∀ y, gl x 0 y = if 160 * j ≤ y ∧ y < 160 * j + i then 0 else gl τ 0 y) ⟨fun _ => rfl, fun _ => rfl, fun y => by rw [if_neg (by omega)]⟩ ?_
  rintro i x hi ⟨i1, i2, i3⟩
  refine ⟨i1, i2, fun y => ?_⟩
  simp only [gl_sl, if_true, udL_s, i3]
  by_cases q : y = 160 * j + i
  · rw [if_pos q, if_pos (by omega)]
  · rw [if_neg q]
    by_cases q2 : 160 * j ≤ y ∧ y < 160 * j + i
    · rw [if_pos q2, if_pos (by omega)]
    · rw [if_neg q2, if_neg (by omega)]
theorem ag_row_ok {n : Nat} (hn : 1000000 ≤ n) : ag_row n Rel := by
  rintro σ τ a1 a2 a3 ⟨c, h⟩
  unfold f_X11_row f_X12_row
  rcases shelf_c a1 with ⟨j, hj, rfl, e1, e2⟩ | ⟨e1, e2⟩
  · rw [e1, e2, if_neg one_ne, if_neg one_ne]
    by_cases q3 : 0 ≤ a3
    · rw [if_pos q3, if_pos q3]
      rcases rng (x := a2) (m := 3) 3 rfl (by decide) with ⟨k, hk, rfl, p1, p2, p3⟩ | ⟨p3, p⟩
      · rw [if_neg p1, if_pos p2, p3, if_neg one_ne]
        by_cases q : a3 ≤ 160
        · rw [if_pos q, if_pos q]
          obtain ⟨z, hz, rfl⟩ := nI_of2 (M := 160) (n := 160) (by decide) (Int32.not_lt.mpr q3) q
          refine ⟨1, sl (sa (sa σ 20 (upd (ga σ 20) j (100 + nI k))) 19 (upd (ga σ 19) j (nI z))) j (fun _ => 0), zeroRow j (sa (sa τ 3 (upd (ga τ 3) j (nI k))) 4 (upd (ga τ 4) j (nI z))), ?_, ?_, c, ?_⟩
          · rw [ld_n j rfl hj (by omega)]
            unfold f_X8_holdRow
            rw [if_neg (nI_pos (by omega)), if_pos q]
            rfl
          · rw [ck_n j rfl hj (by omega), lt_e, ck_n j rfl hj (by omega), lt_e, row_L hj _ (by omega), nI_clamp (by omega)]
            rfl
          · obtain ⟨w1, w2, w3⟩ := zeroRow_p j (sa (sa τ 3 (upd (ga τ 3) j (nI k))) 4 (upd (ga τ 4) j (nI z)))
            refine h.shelves (fun _ => rfl) (fun a h1 h2 => ?_) (fun k => w1 k) (fun a h1 h2 => ?_) (fun j' hj' => ?_)
            · simp only [ga_sl, ga_sa, if_neg h1, if_neg h2]
            · rw [w2]; simp only [ga_sa, if_neg h1, if_neg h2]
            · by_cases e : j' = j
              · subst e
                refine Or.inr (Or.inr ⟨k, z, by omega, hz, ?_, ?_, ?_, ?_, fun i hi => ?_⟩)
                · simp [ga_sl, ga_sa, ud_s, ← nI_add]
                  rfl
                · rw [w2]; simp [ga_sa, ud_s]
                · simp [ga_sl, ga_sa, ud_s]
                · rw [w2]; simp [ga_sa, ud_s]
                · rw [w3, if_pos (by omega)]; simp [gl_sl]
              · refine (h.2.2.2.2.2.2.1 j' hj').same ?_ ?_ ?_ ?_ (fun i hi => ?_) (fun i hi => ?_)
                · simp [ga_sl, ga_sa, ud_s, e]
                · simp [ga_sl, ga_sa, ud_s, e]
                · rw [w2]; simp [ga_sa, ud_s, e]
                · rw [w2]; simp [ga_sa, ud_s, e]
                · simp [gl_sl, gl_sa, e]
                · rw [w3, if_neg (by omega)]; rfl
        · rw [if_neg q, if_neg q, RC6, RM6]
          exact ⟨_, _, _, rfl, rfl, c, h.ref 6⟩
      · rw [p3, if_pos rfl, RM5]
        rcases p with p | ⟨p, p'⟩
        · rw [if_pos p, RC5]; exact ⟨_, _, _, rfl, rfl, c, h.ref 5⟩
        · rw [if_neg p, if_neg p', RC5]; exact ⟨_, _, _, rfl, rfl, c, h.ref 5⟩
    · rw [if_neg q3, if_neg q3, RC3, RM3]
      exact ⟨_, _, _, rfl, rfl, c, h.ref 3⟩
  · rw [e1, e2, if_pos rfl, if_pos rfl, RC0, RM0]
    exact ⟨_, _, _, rfl, rfl, c, h.ref 0⟩
theorem RelC.elem {c : Nat} {σ τ : SC} (h : RelC c σ τ) {j i : Nat} (hj : j < 8) (hi : i < 160) (v : Int64) : RelC c (sl σ j (vp_updL (gl σ j) i v)) (sl τ 0 (vp_updL (gl τ 0) (160 * j + i) v)) := by
  refine h.shelves (fun _ => rfl) (fun _ _ _ => rfl) (fun _ => rfl) (fun _ _ _ => rfl) (fun j' hj' => ?_)
  by_cases e : j' = j
  · subst e
    rcases h.2.2.2.2.2.2.1 j' hj' with h | h | ⟨k, n, h1, h2, h3, h4, h5, h6, h7⟩
    · exact Or.inl h
    · exact Or.inr (Or.inl h)
    · refine Or.inr (Or.inr ⟨k, n, h1, h2, h3, h4, h5, h6, fun y hy => ?_⟩)
      simp only [gl_sl, if_true, udL_s]
      by_cases q : y = i
      · subst q; rw [if_pos rfl, if_pos rfl]
      · rw [if_neg q, if_neg (by omega), h7 y hy]
  · refine (h.2.2.2.2.2.2.1 j' hj').same rfl rfl rfl rfl (fun y hy => ?_) (fun y hy => ?_)
    · simp [gl_sl, e]
    · simp only [gl_sl, if_true, udL_s]; rw [if_neg (by omega)]
/-- what a shelf holds -/
theorem shf_k {c : Nat} {σ τ : SC} {j : Nat} (hc : c ≤ 24) (h : Shf c σ τ j) :
    (ga σ 20 j = -1 ∧ ga τ 3 j = -1 ∧ f_X8_hasRow σ j = 0 ∧ f_X8_hasAction σ j = 0) ∨
    (∃ a, a < c ∧ ga σ 20 j = nI a ∧ ga τ 3 j = 4 ∧ ga τ 4 j = nI a ∧ f_X8_hasRow σ j = 0 ∧ f_X8_hasAction σ j = 1) ∨
    (∃ k n, k < 4 ∧ n ≤ 160 ∧ ga σ 20 j = nI (100 + k) ∧ ga τ 3 j = nI k ∧ ga σ 19 j = nI n ∧ ga τ 4 j = nI n ∧ (∀ i, i < n → gl τ 0 (160 * j + i) = gl σ j i) ∧ f_X8_hasRow σ j = 1 ∧ f_X8_hasAction σ j = 0) := by
  unfold f_X8_hasRow f_X8_hasAction
  rcases h with ⟨h1, h2⟩ | ⟨a, h1, h2, h3, h4⟩ | ⟨k, n, h1, h2, h3, h4, h5, h6, h7⟩
  · refine Or.inl ⟨h1, h2, ?_, ?_⟩
    · rw [h1]; rfl
    · rw [h1]; rfl
  · refine Or.inr (Or.inl ⟨a, h1, h2, h3, h4, ?_, ?_⟩)
    · rw [h2, if_pos (show nI a < (100 : Int32) from nI_lt (b := 100) (by omega) (by omega))]
    · rw [h2, if_neg (nI_nm1 (by omega)), if_neg (show ¬ (100 : Int32) ≤ nI a from nI_ge (b := 100) (by omega) (by omega))]
  · refine Or.inr (Or.inr ⟨k, n, h1, h2, h3, h4, h5, h6, h7, ?_, ?_⟩)
    · rw [h3, if_neg (show ¬ nI (100 + k) < (100 : Int32) from nI_nlt (b := 100) (by omega) (by omega))]
    · rw [h3, if_neg (nI_nm1 (by omega)), if_pos (show (100 : Int32) ≤ nI (100 + k) from nI_le (a := 100) (by omega) (by omega))]
theorem elem_c {σ : SC} {j n : Nat} {x : Int32} (hn : n ≤ 160) (h1 : ga σ 19 j = nI n) (h2 : f_X8_hasRow σ j = 1) : (∃ i, i < n ∧ x = nI i ∧ f_X8_hasElement σ j x = 1 ∧ f_X12_in x 0 (nI n - 1) = 1) ∨ (f_X8_hasElement σ j x = 0 ∧ f_X12_in x 0 (nI n - 1) = 0) := by
  rcases Classical.em (inR x n) with h | h
  · have h' := in_1 (by omega) h
    obtain ⟨i, hi, rfl⟩ := h
    refine Or.inl ⟨i, hi, rfl, ?_, h'⟩
    unfold f_X8_hasElement
    rw [h2, h1, if_neg one_ne, if_neg (nI_pos (by omega)), if_neg (nI_ge hi (by omega))]
  · refine Or.inr ⟨?_, in_0 (by omega) h⟩
    unfold f_X8_hasElement
    rw [h2, h1, if_neg one_ne]
    rw [inR_iff (by omega)] at h
    by_cases q : x < 0
    · rw [if_pos q]
    · rw [if_neg q, if_pos (Classical.byContradiction fun q2 => h ⟨q, q2⟩)]
theorem refusal_c {c : Nat} {σ τ : SC} {j : Nat} (hj : j < 8) (hc : c ≤ 24) (h : Shf c σ τ j) :
    (ga σ 20 j = -1 ∧ ga τ 3 j = -1 ∧ f_X11_refusalOfRow σ (nI j) = some (-3) ∧ f_X12_wanted τ (nI j) = some (-3)) ∨
    ((∃ a, a < c ∧ ga σ 20 j = nI a ∧ ga τ 3 j = 4) ∧ f_X11_refusalOfRow σ (nI j) = some (-2) ∧ f_X12_wanted τ (nI j) = some (-2)) ∨
    ((∃ k n, k < 4 ∧ n ≤ 160 ∧ ga σ 20 j = nI (100 + k) ∧ ga τ 3 j = nI k ∧ ga σ 19 j = nI n ∧ ga τ 4 j = nI n ∧ (∀ i, i < n → gl τ 0 (160 * j + i) = gl σ j i) ∧ f_X8_hasRow σ j = 1) ∧ f_X11_refusalOfRow σ (nI j) = some 0 ∧ f_X12_wanted τ (nI j) = some 0) := by
  unfold f_X11_refusalOfRow f_X12_wanted
  have e : f_X11_isShelf (nI j) = 1 ∧ f_X12_isShelf (nI j) = 1 := by
    rcases shelf_c (nI j) with ⟨_, _, _, e⟩ | ⟨e1, e2⟩
    · exact e
    · exfalso
      unfold f_X11_isShelf at e1
      rw [if_neg (nI_pos (by omega)), if_neg (show ¬ (8 : Int32) ≤ nI j from nI_ge (b := 8) hj (by omega))] at e1
      exact one_ne e1
  rw [e.1, e.2, if_neg one_ne, if_neg one_ne]
  repeat rw [ld_n j rfl hj (by omega)]
  rcases shf_k hc h with ⟨h1, h2, h3, h4⟩ | ⟨a, h1, h2, h3, h4, h5, h6⟩ | ⟨k, n, h1, h2, h3, h4, h5, h6, h7, h8, h9⟩
  · refine Or.inl ⟨h1, h2, ?_, ?_⟩
    · rw [h4, if_pos rfl, h3, if_pos rfl]
    · rw [h2]; rfl
  · refine Or.inr (Or.inl ⟨⟨a, h1, h2, h3⟩, ?_, ?_⟩)
    · rw [h6, if_neg one_ne]
    · rw [h3]; rfl
  · refine Or.inr (Or.inr ⟨⟨k, n, h1, h2, h3, h4, h5, h6, h7, h8⟩, ?_, ?_⟩)
    · rw [h9, if_pos rfl, h8, if_neg one_ne]
    · rw [h4, if_neg (show ¬ nI k = (4 : Int32) from nI_ne (b := 4) (by omega) (by omega) (by omega)), if_neg (nI_nm1 (by omega))]
theorem ag_set_ok (n : Nat) : ag_set n Rel := by
  rintro σ τ a1 a2 a3 ⟨c, h⟩
  unfold f_X11_set f_X12_set
  rcases shelf_c a1 with ⟨j, hj, rfl, e1, e2⟩ | ⟨e1, e2⟩
  · rcases refusal_c hj h.1.1 (h.2.2.2.2.2.2.1 j hj) with ⟨_, _, e3, e4⟩ | ⟨_, e3, e4⟩ | ⟨⟨k, z, hk, hz, p1, p2, p3, p4, p5, p6⟩, e3, e4⟩
    · rw [e3, e4, bd_e, bd_e, if_neg (by decide), if_neg (by decide), RC2, RM2]
      exact ⟨_, _, _, rfl, rfl, c, h.ref 2⟩
    · rw [e3, e4, bd_e, bd_e, if_neg (by decide), if_neg (by decide), RC1, RM1]
      exact ⟨_, _, _, rfl, rfl, c, h.ref 1⟩
    · rw [e3, e4, bd_e, bd_e, if_pos rfl, if_pos rfl]
      repeat rw [ld_n j rfl hj (by omega)]
      rw [p4]
      rcases elem_c (x := a2) hz p3 p6 with ⟨i, hi, rfl, f1, f2⟩ | ⟨f1, f2⟩
      · rw [f1, f2, if_neg one_ne, if_neg one_ne]
        have e : ∀ {β : Type} (K : Option β), ck 1280 (160 * nI j + nI i) K = K := fun K => by rw [ix_160]; exact ck_n (160 * j + i) rfl (by omega) (by omega)
        have e' : (160 * nI j + nI i).toNatClampNeg = 160 * j + i := by rw [ix_160, nI_clamp (by omega)]
        have ek : ∀ {β : Type} (K : Option β), ck 160 (nI i) K = K := fun K => ck_n i rfl (by omega) (by omega)
        have es : nI (100 + k) - 100 = nI k := by rw [show (100 : Int32) = nI 100 from rfl, pk_sub (by omega), Nat.add_sub_cancel_left]
        unfold f_X8_keep
        repeat rw [ld_n j rfl hj (by omega)]
        simp only [f1, if_neg one_ne, p1, p2, es, e, e', ek, lt_e, bd_e, nI_clamp (show i < 2 ^ 31 by omega)]
        rcases k with _ | _ | _ | _ | k
        · simp only [show (nI 0 = 0) = True from by decide, show (nI 0 = 1) = False from by decide, show (nI 0 = 2) = False from by decide, if_true, if_false]
          exact ⟨_, _, _, rfl, rfl, c, h.elem hj (show i < 160 by omega) _⟩
        · simp only [show (nI (0 + 1) = 0) = False from by decide, show (nI (0 + 1) = 1) = True from by decide, show (nI (0 + 1) = 2) = False from by decide, if_true, if_false]
          exact ⟨_, _, _, rfl, rfl, c, h.elem hj (show i < 160 by omega) _⟩
        · simp only [show (nI (0 + 1 + 1) = 0) = False from by decide, show (nI (0 + 1 + 1) = 1) = False from by decide, show (nI (0 + 1 + 1) = 2) = True from by decide, if_true, if_false]
          exact ⟨_, _, _, rfl, rfl, c, h.elem hj (show i < 160 by omega) _⟩
        · simp only [show (nI (0 + 1 + 1 + 1) = 0) = False from by decide, show (nI (0 + 1 + 1 + 1) = 1) = False from by decide, show (nI (0 + 1 + 1 + 1) = 2) = False from by decide, if_true, if_false]
          exact ⟨_, _, _, rfl, rfl, c, h.elem hj (show i < 160 by omega) _⟩
        · omega
      · rw [f1, f2, if_pos rfl, if_pos rfl, RC4, RM4]
        exact ⟨_, _, _, rfl, rfl, c, h.ref 4⟩
  · have e3 : f_X11_refusalOfRow σ a1 = some (-1) := by unfold f_X11_refusalOfRow; rw [e1, if_pos rfl]
    have e4 : f_X12_wanted τ a1 = some (-1) := by unfold f_X12_wanted; rw [e2, if_pos rfl]
    rw [e3, e4, bd_e, bd_e, if_neg (by decide), if_neg (by decide), RC0, RM0]
    exact ⟨_, _, _, rfl, rfl, c, h.ref 0⟩
theorem ag_element_ok (n : Nat) : ag_element n Rel := by
  rintro σ τ a1 a2 ⟨c, h⟩
  unfold f_X11_element f_X12_element f_X12_isRow
  rcases shelf_c a1 with ⟨j, hj, rfl, e1, e2⟩ | ⟨e1, e2⟩
  · rw [e1, e2, if_neg one_ne, if_neg one_ne]
    repeat rw [ld_n j rfl hj (by omega)]
    unfold f_X8_longAt
    rcases shf_k h.1.1 (h.2.2.2.2.2.2.1 j hj) with ⟨h1, h2, h3, h4⟩ | ⟨a, h1, h2, h3, h4, h5, h6⟩ | ⟨k, n, h1, h2, h3, h4, h5, h6, h7, h8, h9⟩
    · refine ⟨0, ?_, ?_, c, h⟩
      · unfold f_X8_hasElement; rw [h3]; rfl
      · rw [h2]; rfl
    · refine ⟨0, ?_, ?_, c, h⟩
      · unfold f_X8_hasElement; rw [h5]; rfl
      · rw [h3]; rfl
    · have e : f_X12_in (nI k) 0 3 = 1 := inc_1 (lo := 0) (hi := 3) rfl (by omega) (by omega) (by decide)
      rcases elem_c (x := a2) h2 h5 h8 with ⟨i, hi, rfl, f1, f2⟩ | ⟨f1, f2⟩
      · refine ⟨gl σ j i, ?_, ?_, c, h⟩
        · rw [f1, if_neg one_ne, ld_n i rfl (by omega) (by omega)]; rfl
        · rw [h4, e, if_neg one_ne, bd_e, if_neg one_ne, h6, f2, if_neg one_ne, ix_160, ld_n (160 * j + i) rfl (by omega) (by omega), h7 i hi]
      · refine ⟨0, ?_, ?_, c, h⟩
        · rw [f1, if_pos rfl]; rfl
        · rw [h4, e, if_neg one_ne, bd_e, if_neg one_ne, h6, f2, if_pos rfl]
  · refine ⟨0, ?_, ?_, c, h⟩
    · rw [e1, if_pos rfl]
    · rw [e2, if_pos rfl]; rfl
theorem ag_holds_ok (n : Nat) : ag_holds n Rel := by
  rintro σ τ a1 ⟨c, h⟩
  unfold f_X11_holds f_X12_holds
  rcases shelf_c a1 with ⟨j, hj, rfl, e1, e2⟩ | ⟨e1, e2⟩
  · rw [e1, e2, if_neg one_ne, if_neg one_ne]
    repeat rw [ld_n j rfl hj (by omega)]
    refine ⟨_, rfl, ?_, c, h⟩
    have h24 := h.1.1
    rcases shf_k h.1.1 (h.2.2.2.2.2.2.1 j hj) with ⟨h1, h2, h3, h4⟩ | ⟨a, h1, h2, h3, h4, h5, h6⟩ | ⟨k, n, h1, h2, h3, h4, h5, h6, h7, h8, h9⟩
    · rw [h1, h2]; rfl
    · rw [h3, if_neg (by decide), if_pos rfl, h4, h2]
    · rw [h4, if_neg (nI_nm1 (by omega)), if_neg (show ¬ nI k = (4 : Int32) from nI_ne (b := 4) (by omega) (by omega) (by omega)), h3]
      exact congrArg some (nI_add 100 k)
  · rw [e1, e2]
    exact ⟨_, rfl, rfl, c, h⟩
