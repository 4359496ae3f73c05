/-! status, image, restore, action, macro -/
def cntS (kd : Nat → Int32) (c : Nat) : Int32 := fo (fun i y => if kd i = 0 then y else y + 1) c 0
theorem cnt_C {σ : SC} {c n : Nat} (h24 : c ≤ 24) (hc : gi σ 6 = nI c) (hn : 100 < n) : f_X0_countMacros n σ = some (cntS (ga σ 4) c) := by
  unfold f_X0_countMacros
  refine (loop_fo (L := fun f i y => LX0_countMacros_4 σ (fun w5 => some w5) f y (nI i)) (K := fun w6 => some w6) (g := fun i y => if ga σ 4 i = 0 then y else y + 1) (c := c) (n := n) (x := 0) (fun _ _ => True) (by omega) trivial ?_ ?_).1
  · intro f y _
    show (if gi σ 6 ≤ nI c then _ else _) = _
    rw [if_pos (by rw [hc]; exact nI_le (Nat.le_refl c) (by omega))]
  · intro f i y hi _
    refine ⟨?_, trivial⟩
    show (if gi σ 6 ≤ nI i then _ else _) = _
    rw [hc, if_neg (nI_ge hi (by omega)), ldA (by omega), nI_p1]
    by_cases q : ga σ 4 i = 0
    · rw [if_pos q]; simp only [if_pos q, lt_e]
    · rw [if_neg q]; simp only [if_neg q, lt_e]
theorem cnt_M {τ σ : SC} {c n : Nat} (h24 : c ≤ 24) (hc : ga τ 0 172 = nI c) (ht : Tab c (ga τ 0) σ) (hw : ∀ a, a < c → WfA σ a) (hn : 100 < n) (K : Int32 → Option Int32) : LX12_status_9 τ K n 0 0 = K (cntS (ga σ 4) c) := by
  refine (loop_fo (L := fun f i y => LX12_status_9 τ K f y (nI i)) (K := K) (g := fun i y => if ga σ 4 i = 0 then y else y + 1) (c := c) (n := n) (x := 0) (fun _ _ => True) (by omega) trivial ?_ ?_).1
  · intro f y _
    show ld _ _ _ _ = _
    rw [ld172, hc, if_pos (nI_le (Nat.le_refl c) (by omega))]
  · intro f i y hi _
    refine ⟨?_, trivial⟩
    show ld _ _ _ _ = _
    rw [ld172, hc, if_neg (nI_ge hi (by omega)), ld96 (by omega), (ht i hi).2.2.2.2.1, nI_p1]
    obtain ⟨_, _, _, _, hk⟩ := hw i hi
    rcases hk with ⟨k4, _⟩ | ⟨_, _, _, _, _, _, _, k4 | k4⟩
    · simp only [k4, lt_e, if_true]; rw [if_pos (by decide), Int32.add_zero]
    · simp only [k4, lt_e, if_neg one_ne]; rw [if_neg (by decide)]
    · simp only [k4, lt_e, if_neg (show ¬ (2 : Int32) = 0 by decide)]; rw [if_neg (by decide)]
theorem ag_status_ok {n : Nat} (hn : 1000000 ≤ n) : ag_status n Rel := by
  rintro σ τ a1 ⟨c, h⟩
  unfold f_X11_status f_X12_status
  simp only [jn_e, cnt_C h.1.1 h.1.2.1 (show 100 < n by omega), cnt_M h.1.1 h.1.2.2.1 h.2.1 h.2.2.1 (show 100 < n by omega)]
  obtain ⟨t, ht, t1, t2, t3⟩ := h.2.2.2.2.2.1
  obtain ⟨n1, n2, n3, n4, n5, n6, n7, n8, n9, n10⟩ := h.1
  have h5 := h.2.2.2.2.1
  rcases rng (x := a1) (m := 17) 17 rfl (by decide) with ⟨k, hk, rfl, p1, p2, p3⟩ | ⟨p3, p⟩
  · rcases Nat.lt_or_ge k 11 with hk' | hk'
    · match k, hk' with
      | 0, _ => exact ⟨_, rfl, by rw [n2, ← n3]; exact ld172, c, h⟩
      | 1, _ => exact ⟨_, rfl, by rw [n4]; exact ld_n (n := 173) (i := (168 + nI 1) - 1) 168 rfl (by omega) (by omega), c, h⟩
      | 2, _ => exact ⟨_, rfl, by rw [n6]; exact ld_n (n := 173) (i := (168 + nI 2) - 1) 169 rfl (by omega) (by omega), c, h⟩
      | 3, _ => exact ⟨_, rfl, by rw [n8]; exact ld_n (n := 173) (i := (168 + nI 3) - 1) 170 rfl (by omega) (by omega), c, h⟩
      | 4, _ => exact ⟨_, rfl, by rw [n10]; exact ld_n (n := 173) (i := (168 + nI 4) - 1) 171 rfl (by omega) (by omega), c, h⟩
      | 5, _ => exact ⟨_, rfl, rfl, c, h⟩
      | 6, _ => exact ⟨_, rfl, by rw [t1, ← t2]; rfl, c, h⟩
      | 7, _ => exact ⟨_, rfl, rfl, c, h⟩
      | 8, _ => exact ⟨_, rfl, rfl, c, h⟩
      | 9, _ => exact ⟨_, rfl, rfl, c, h⟩
      | 10, _ => exact ⟨_, rfl, rfl, c, h⟩
    · refine ⟨ga σ 17 (k - 11), ?_, ?_, c, h⟩
      · rw [if_neg (show ¬ nI k < 11 from nI_nlt (b := 11) hk' (by omega)), if_neg (show ¬ 17 < nI k from nI_nlt (a := 17) hk (by omega)), show nI k - 11 = nI (k - 11) from pk_sub (b := 11) hk', ld_n (k - 11) rfl (by omega) (by omega)]
      · rw [if_neg (show ¬ nI k = 5 from nI_ne (b := 5) (by omega) (by omega) (by omega)), show f_X12_in (nI k) 11 17 = 1 from inc_1 (lo := 11) (hi := 17) rfl hk' hk (by decide), if_neg one_ne, show nI k - 10 = nI (k - 10) from pk_sub (b := 10) (by omega), ld_n (k - 10) rfl (by omega) (by omega), h5 (k - 11) (by omega), show k - 11 + 1 = k - 10 by omega]
  · have no : ∀ k, k ≤ 17 → ¬ a1 = nI k := by
      rintro k hk rfl
      rcases p with p | ⟨_, p⟩
      · exact nI_pos (by omega) p
      · exact p (nI_le (a := k) (b := 17) hk (by omega))
    have g1 : f_X12_in a1 11 17 = 0 := by
      rcases inc_c (x := a1) (lo := 11) (hi := 17) (by decide) (by decide) with ⟨_, k, _, hk, e⟩ | ⟨e, _⟩
      · exact absurd e (no k (by omega))
      · exact e
    have g2 : f_X12_in a1 1 4 = 0 := by
      rcases inc_c (x := a1) (lo := 1) (hi := 4) (by decide) (by decide) with ⟨_, k, _, hk, e⟩ | ⟨e, _⟩
      · exact absurd e (no k (by omega))
      · exact e
    refine ⟨-1, ?_, ?_, c, h⟩
    · rw [if_neg (show ¬ a1 = 0 from no 0 (by omega)), if_neg (show ¬ a1 = 1 from no 1 (by omega)), if_neg (show ¬ a1 = 2 from no 2 (by omega)), if_neg (show ¬ a1 = 3 from no 3 (by omega)), if_neg (show ¬ a1 = 4 from no 4 (by omega)), if_neg (show ¬ a1 = 5 from no 5 (by omega)), if_neg (show ¬ a1 = 6 from no 6 (by omega))]
      by_cases q : a1 < 11
      · rw [if_pos q]
      · rw [if_neg q, if_pos]
        rcases p with p | ⟨_, p⟩
        · exfalso; apply q
          rw [Int32.lt_iff_toInt_lt] at p ⊢
          have : (0 : Int32).toInt = 0 := by decide
          have : (11 : Int32).toInt = 11 := by decide
          omega
        · exact Int32.not_le.mp p
    · rw [if_neg (show ¬ a1 = 5 from no 5 (by omega)), g1, if_pos rfl, if_neg (show ¬ a1 = 0 from no 0 (by omega)), g2, if_pos rfl, if_neg (show ¬ a1 = 6 from no 6 (by omega))]
def cpA (to fr : Nat) (τ : SC) : SC := fo (fun i y => sa y to (upd (ga y to) i (ga y fr i))) 173 τ
theorem cpA_p {to fr : Nat} (hne : fr ≠ to) (τ : SC) : (∀ k, gi (cpA to fr τ) k = gi τ k) ∧ (∀ a, a ≠ to → ga (cpA to fr τ) a = ga τ a) ∧ (∀ j, gl (cpA to fr τ) j = gl τ j) ∧ ∀ i, i < 173 → ga (cpA to fr τ) to i = ga τ fr i := by
  refine fo_inv (fun k z => (∀ k, gi z k = gi τ k) ∧ (∀ a, a ≠ to → ga z a = ga τ a) ∧ (∀ y, gl z y = gl τ y) ∧ ∀ i, i < k → ga z to i = ga τ fr i) ⟨fun _ => rfl, fun _ _ => rfl, fun _ => rfl, fun i hi => absurd hi (by omega)⟩ ?_
  rintro i z hi ⟨i1, i2, i3, i4⟩
  refine ⟨i1, fun a ha => ?_, i3, fun y hy => ?_⟩
  · rw [ga_sa, if_neg ha]; exact i2 a ha
  · rw [ga_sa, if_pos rfl, ud_s, i2 fr hne]
    by_cases q : y = i
    · rw [if_pos q, q]
    · rw [if_neg q]; exact i4 y (by omega)
theorem image_L {n : Nat} (hn : 1000 ≤ n) (K : SC → Option (Int32 × SC)) (τ : SC) : LX12_image_2 K n τ 0 = K (cpA 1 0 τ) := by
  refine (loop_fo (L := fun f i z => LX12_image_2 K f z (nI i)) (K := K) (g := fun i y => sa y 1 (upd (ga y 1) i (ga y 0 i))) (c := 173) (n := n) (x := τ) (fun _ _ => True) (by omega) trivial ?_ ?_).1
  · intro f z _
    exact if_pos (nI_le (Nat.le_refl 173) (by omega))
  · intro f i z hi _
    refine ⟨?_, trivial⟩
    show (if (173 : Int32) ≤ nI i then _ else _) = _
    rw [if_neg (show ¬ (173 : Int32) ≤ nI i from nI_ge (b := 173) hi (by omega)), ld_n i rfl (by omega) (by omega), ck_n i rfl (by omega) (by omega), nI_clamp (by omega), nI_p1]
    rfl
theorem restore_L {n : Nat} (hn : 1000 ≤ n) (K : SC → Option (Int32 × SC)) (τ : SC) : LX12_restore_16 K n τ 0 = K (cpA 0 1 τ) := by
  refine (loop_fo (L := fun f i z => LX12_restore_16 K f z (nI i)) (K := K) (g := fun i y => sa y 0 (upd (ga y 0) i (ga y 1 i))) (c := 173) (n := n) (x := τ) (fun _ _ => True) (by omega) trivial ?_ ?_).1
  · intro f z _
    exact if_pos (nI_le (Nat.le_refl 173) (by omega))
  · intro f i z hi _
    refine ⟨?_, trivial⟩
    show (if (173 : Int32) ≤ nI i then _ else _) = _
    rw [if_neg (show ¬ (173 : Int32) ≤ nI i from nI_ge (b := 173) hi (by omega)), ld_n i rfl (by omega) (by omega), ck_n i rfl (by omega) (by omega), nI_clamp (by omega), nI_p1]
    rfl
theorem RelC.img {c : Nat} {σ σ1 τ τ1 : SC} (h : RelC c σ τ) (g1 : ∀ k, k < 33 → gi σ1 k = gi σ k) (a1 : ∀ a, ga σ1 a = ga σ a) (l1 : ∀ j, gl σ1 j = gl σ j) (g2 : ∀ k, k ≠ 1 → gi τ1 k = gi τ k) (a2 : ∀ a, a ≠ 1 → ga τ1 a = ga τ a) (l2 : ∀ j, gl τ1 j = gl τ j) (hi : Img c σ1 τ1) : RelC c σ1 τ1 := by
  have i0 := g1 0 (by decide); have i1 := g1 1 (by decide); have i2 := g1 2 (by decide); have i3 := g1 3 (by decide); have i4 := g1 4 (by decide); have i5 := g1 5 (by decide); have i6 := g1 6 (by decide)
  have i14 := g1 14 (by decide); have i15 := g1 15 (by decide); have i16 := g1 16 (by decide); have i17 := g1 17 (by decide); have i18 := g1 18 (by decide); have i19 := g1 19 (by decide); have i20 := g1 20 (by decide); have i21 := g1 21 (by decide); have i22 := g1 22 (by decide)
  have k5 := g2 5 (by decide); have k12 := g2 12 (by decide)
  have c0 := a2 0 (by decide); have c2 := a2 2 (by decide); have c3 := a2 3 (by decide); have c4 := a2 4 (by decide); have c13 := a2 13 (by decide)
  obtain ⟨h1, h2, h3, h4, h5, h6, h7, h8, h9⟩ := h
  simp only [Num, Tab, WfA, Trc, Shf, Cach, ← i0, ← i1, ← i2, ← i3, ← i4, ← i5, ← i6, ← i14, ← i15, ← i16, ← i17, ← i18, ← i19, ← i20, ← i21, ← i22, ← a1, ← l1, ← k5, ← k12, ← c0, ← c2, ← c3, ← c4, ← c13, ← l2] at h1 h2 h3 h4 h5 h6 h7 h9
  exact ⟨h1, h2, h3, h4, h5, h6, h7, hi, h9⟩
theorem RelC.table {c c1 : Nat} {σ σ1 τ τ1 : SC} (h : RelC c σ τ) (hN : Num c1 σ1 τ1) (hT : Tab c1 (ga τ1 0) σ1) (hW : ∀ a, a < c1 → WfA σ1 a) (g0 : gi σ1 0 = gi σ 0) (g5 : gi σ1 5 = gi σ 5) (a17 : ga σ1 17 = ga σ 17) (a18 : ga σ1 18 = ga σ 18) (k5 : gi τ1 5 = gi τ 5) (k12 : gi τ1 12 = gi τ 12) (c2 : ga τ1 2 = ga τ 2) (c13 : ga τ1 13 = ga τ 13) (sh : ∀ j, j < 8 → Shf c1 σ1 τ1 j) (hi : Img c1 σ1 τ1) (z : gi σ1 16 = 0 ∧ gi σ1 18 = 0 ∧ gi σ1 19 = 0) : RelC c1 σ1 τ1 := by
  obtain ⟨h1, h2, h3, h4, h5, h6, h7, h8, h9⟩ := h
  refine ⟨hN, hT, hW, by rw [g5, k5, h4], fun k hk => by rw [a17, c2, h5 k hk], ?_, sh, hi, Or.inl z⟩
  unfold Trc
  rw [g0, k12, a18, c13]
  exact h6
theorem ag_image_ok {n : Nat} (hn : 1000000 ≤ n) : ag_image n Rel := by
  rintro σ τ ⟨c, h⟩
  unfold f_X11_image f_X12_image
  rw [image_L (by omega)]
  obtain ⟨w1, w2, w3, w4⟩ := cpA_p (to := 1) (fr := 0) (by decide) τ
  obtain ⟨n1, n2, n3, n4, n5, n6, n7, n8, n9, n10⟩ := h.1
  have e1 := w2 0 (by decide)
  refine ⟨gi σ 6, _, si (cpA 1 0 τ) 1 1, rfl, ?_, c, ?_⟩
  · rw [lt_e, ld172, ga_si, e1, n2, n3]
  · refine h.img (fun k hk => ?_) (fun _ => rfl) (fun _ => rfl) (fun k hk => ?_) (fun a ha => ?_) (fun j => ?_) (Or.inr ⟨rfl, rfl, c, Nat.le_refl c, n2, ?_, ?_, ?_, n5, ?_, n7, ?_, n9, ?_⟩)
    · simp only [gi_si]
      rw [if_neg (by omega), if_neg (by omega), if_neg (by omega), if_neg (by omega), if_neg (by omega), if_neg (by omega)]
    · rw [gi_si, if_neg hk, w1]
    · rw [ga_si, w2 a ha]
    · rw [gl_si, w3]
    · rw [ga_si, w4 172 (by omega)]; exact n3
    · intro a ha
      rw [ga_si, w4 a (by omega), w4 (24 + a) (by omega), w4 (48 + a) (by omega), w4 (72 + a) (by omega), w4 (96 + a) (by omega), w4 (120 + a) (by omega), w4 (144 + a) (by omega)]
      exact h.2.1 a ha
    · rw [ga_si, w4 168 (by omega)]; exact n4
    · rw [ga_si, w4 169 (by omega)]; exact n6
    · rw [ga_si, w4 170 (by omega)]; exact n8
    · rw [ga_si, w4 171 (by omega)]; exact n10
def clrC (j : Nat) (σ : SC) : SC := if f_X8_hasAction σ j = 0 then σ else if f_X0_has σ (ga σ 20 j) = 0 then sa (sa σ 20 (upd (ga σ 20) j (-1))) 19 (upd (ga (sa σ 20 (upd (ga σ 20) j (-1))) 19) j 0) else σ
def clrM (j : Nat) (τ : SC) : SC := if ga τ 3 j = 4 then (if f_X12_in (ga τ 4 j) 0 (ga τ 0 172 - 1) = 0 then sa τ 3 (upd (ga τ 3) j (-1)) else τ) else τ
theorem clrC_L {n : Nat} (hn : 1000 ≤ n) (K : SC → Option (Int32 × SC)) (σ : SC) : LX11_restore_77 K n σ 0 = K (fo clrC 8 σ) := by
  refine (loop_fo (L := fun f i z => LX11_restore_77 K f z (nI i)) (K := K) (g := clrC) (c := 8) (n := n) (x := σ) (fun _ _ => True) (by omega) trivial ?_ ?_).1
  · intro f z _
    exact if_pos (nI_le (Nat.le_refl 8) (by omega))
  · intro f i z hi _
    refine ⟨?_, trivial⟩
    show (if (8 : Int32) ≤ nI i then _ else _) = _
    rw [if_neg (show ¬ (8 : Int32) ≤ nI i from nI_ge (b := 8) hi (by omega))]
    simp only [ld_n (i := nI i) i rfl hi (by omega), nI_p1, lt_e]
    unfold clrC
    by_cases q : f_X8_hasAction z i = 0
    · rw [if_pos q, if_pos q]
    · rw [if_neg q, if_neg q]
      by_cases q2 : f_X0_has z (ga z 20 i) = 0
      · rw [if_pos q2, if_pos q2]; rfl
      · rw [if_neg q2, if_neg q2]
theorem clrM_L {n : Nat} (hn : 1000 ≤ n) (K : SC → Option (Int32 × SC)) (τ : SC) : LX12_restore_43 K n τ 0 = K (fo clrM 8 τ) := by
  refine (loop_fo (L := fun f i z => LX12_restore_43 K f z (nI i)) (K := K) (g := clrM) (c := 8) (n := n) (x := τ) (fun _ _ => True) (by omega) trivial ?_ ?_).1
  · intro f z _
    exact if_pos (nI_le (Nat.le_refl 8) (by omega))
  · intro f i z hi _
    refine ⟨?_, trivial⟩
    show (if (8 : Int32) ≤ nI i then _ else _) = _
    rw [if_neg (show ¬ (8 : Int32) ≤ nI i from nI_ge (b := 8) hi (by omega))]
    unfold f_X12_isAction
    simp only [ld_n (i := nI i) i rfl hi (by omega), nI_p1, lt_e, ld172, bd_e, ck_n (i := nI i) i rfl hi (by omega), nI_clamp (show i < 2 ^ 31 by omega)]
    unfold clrM
    by_cases q : ga z 3 i = 4
    · rw [if_pos q, if_pos q]
      by_cases q2 : f_X12_in (ga z 4 i) 0 (ga z 0 172 - 1) = 0
      · rw [if_pos q2, if_pos q2]
      · rw [if_neg q2, if_neg q2]
    · rw [if_neg q, if_neg q]
theorem clr_step {c ci k : Nat} {x y : SC} (h24 : c ≤ 24) (hci : ci ≤ c) (hk : k < 8) (gx : gi x 6 = nI ci) (gy : ga y 0 172 = nI ci) (h : Shf c x y k) :
    Shf ci (clrC k x) (clrM k y) k ∧ (∀ q, gi (clrC k x) q = gi x q) ∧ (∀ q, gi (clrM k y) q = gi y q) ∧ (∀ a, a ≠ 19 → a ≠ 20 → ga (clrC k x) a = ga x a) ∧ (∀ a, a ≠ 3 → ga (clrM k y) a = ga y a) ∧ (∀ j, j ≠ k → ga (clrC k x) 19 j = ga x 19 j ∧ ga (clrC k x) 20 j = ga x 20 j ∧ ga (clrM k y) 3 j = ga y 3 j) ∧ (∀ j, gl (clrC k x) j = gl x j) ∧ ∀ j, gl (clrM k y) j = gl y j := by
  have hh := h
  have same : clrC k x = x → clrM k y = y → Shf ci x y k → Shf ci (clrC k x) (clrM k y) k ∧ (∀ q, gi (clrC k x) q = gi x q) ∧ (∀ q, gi (clrM k y) q = gi y q) ∧ (∀ a, a ≠ 19 → a ≠ 20 → ga (clrC k x) a = ga x a) ∧ (∀ a, a ≠ 3 → ga (clrM k y) a = ga y a) ∧ (∀ j, j ≠ k → ga (clrC k x) 19 j = ga x 19 j ∧ ga (clrC k x) 20 j = ga x 20 j ∧ ga (clrM k y) 3 j = ga y 3 j) ∧ (∀ j, gl (clrC k x) j = gl x j) ∧ ∀ j, gl (clrM k y) j = gl y j := by
    intro e1 e2 hs
    rw [e1, e2]
    exact ⟨hs, fun _ => rfl, fun _ => rfl, fun _ _ _ => rfl, fun _ _ => rfl, fun _ _ => ⟨rfl, rfl, rfl⟩, fun _ => rfl, fun _ => rfl⟩
  rcases shf_k h24 h with ⟨h1, h2, h3, h4⟩ | ⟨a, h1, h2, h3, h4, h5, h6⟩ | ⟨q, z, h1, h2, h3, h4, h5, h6, h7, h8, h9⟩
  · refine same ?_ ?_ (Or.inl ⟨h1, h2⟩)
    · unfold clrC; rw [h4, if_pos rfl]
    · unfold clrM; rw [h2, if_neg (by decide)]
  · by_cases q : a < ci
    · refine same ?_ ?_ (Or.inr (Or.inl ⟨a, q, h2, h3, h4⟩))
      · unfold clrC; rw [h6, if_neg one_ne, h2, has_1 gx (by omega) ⟨a, q, rfl⟩, if_neg one_ne]
      · unfold clrM; rw [h3, if_pos rfl, h4, gy, in_1 (by omega) ⟨a, q, rfl⟩, if_neg one_ne]
    · have no : ¬ inR (nI a) ci := fun ⟨b, hb, e⟩ => nI_ne (by omega) (by omega) (by omega) e
      have e1 : clrC k x = sa (sa x 20 (upd (ga x 20) k (-1))) 19 (upd (ga (sa x 20 (upd (ga x 20) k (-1))) 19) k 0) := by
        unfold clrC; rw [h6, if_neg one_ne, h2, has_0 gx (by omega) no, if_pos rfl]
      have e2 : clrM k y = sa y 3 (upd (ga y 3) k (-1)) := by
        unfold clrM; rw [h3, if_pos rfl, h4, gy, in_0 (by omega) no, if_pos rfl]
      rw [e1, e2]
      refine ⟨Or.inl ⟨?_, ?_⟩, fun _ => rfl, fun _ => rfl, fun a h19 h20 => ?_, fun a h3 => ?_, fun j hj => ⟨?_, ?_, ?_⟩, fun _ => rfl, fun _ => rfl⟩
      · simp [ga_sa, ud_s]
      · simp [ga_sa, ud_s]
      · simp only [ga_sa, if_neg h19, if_neg h20]
      · simp only [ga_sa, if_neg h3]
      · simp [ga_sa, ud_s, hj]
      · simp [ga_sa, ud_s, hj]
      · simp [ga_sa, ud_s, hj]
  · refine same ?_ ?_ (Or.inr (Or.inr ⟨q, z, h1, h2, h3, h4, h5, h6, h7⟩))
    · unfold clrC; rw [h9, if_pos rfl]
    · unfold clrM; rw [h4, if_neg (show ¬ nI q = (4 : Int32) from nI_ne (b := 4) (by omega) (by omega) (by omega))]
theorem clr_all {c ci : Nat} {x y : SC} (h24 : c ≤ 24) (hci : ci ≤ c) (gx : gi x 6 = nI ci) (gy : ga y 0 172 = nI ci) (h : ∀ j, j < 8 → Shf c x y j) :
    (∀ q, gi (fo clrC 8 x) q = gi x q) ∧ (∀ q, gi (fo clrM 8 y) q = gi y q) ∧ (∀ a, a ≠ 19 → a ≠ 20 → ga (fo clrC 8 x) a = ga x a) ∧ (∀ a, a ≠ 3 → ga (fo clrM 8 y) a = ga y a) ∧ ∀ j, j < 8 → Shf ci (fo clrC 8 x) (fo clrM 8 y) j := by
  have key := fo_rel (g := clrC) (g2 := clrM) (c := 8) (x := x) (y := y) (fun k x' y' => (∀ q, gi x' q = gi x q) ∧ (∀ q, gi y' q = gi y q) ∧ (∀ a, a ≠ 19 → a ≠ 20 → ga x' a = ga x a) ∧ (∀ a, a ≠ 3 → ga y' a = ga y a) ∧ (∀ j, j < 8 → k ≤ j → Shf c x' y' j) ∧ ∀ j, j < 8 → j < k → Shf ci x' y' j) ⟨fun _ => rfl, fun _ => rfl, fun _ _ _ => rfl, fun _ _ => rfl, fun j hj _ => h j hj, fun j _ hj => absurd hj (by omega)⟩ (by
      rintro k x' y' hk ⟨i1, i2, i3, i4, i5, i6⟩
      obtain ⟨s1, s2, s3, s4, s5, s6, s7, s8⟩ := clr_step h24 hci hk (by rw [i1, gx]) (by rw [i4 0 (by decide), gy]) (i5 k hk (Nat.le_refl k))
      have oth : ∀ j, j ≠ k → ∀ d, Shf d x' y' j → Shf d (clrC k x') (clrM k y') j := fun j hj d hd => hd.same (s6 j hj).2.1 (s6 j hj).1 (s6 j hj).2.2 (by rw [s5 4 (by decide)]) (fun i _ => by rw [s7]) (fun i _ => by rw [s8])
      refine ⟨fun q => (s2 q).trans (i1 q), fun q => (s3 q).trans (i2 q), fun a h19 h20 => (s4 a h19 h20).trans (i3 a h19 h20), fun a h3 => (s5 a h3).trans (i4 a h3), fun j hj hkj => oth j (by omega) c (i5 j hj (by omega)), fun j hj hjk => ?_⟩
      by_cases e : j = k
      · subst e; exact s1
      · exact oth j e ci (i6 j hj (by omega)))
  exact ⟨key.1, key.2.1, key.2.2.1, key.2.2.2.1, fun j hj => key.2.2.2.2.2 j hj hj⟩
theorem restore_main {c ci n : Nat} {σ τ s : SC} (hn : 1000000 ≤ n) (h : RelC c σ τ) (hci : ci ≤ c) (q1 : gi σ 33 = 1) (q2 : gi τ 1 = 1) (i1 : gi σ 34 = nI ci) (i2 : ga τ 1 172 = nI ci) (i3 : Tab ci (ga τ 1) σ) (i4 : gi σ 35 = ga τ 1 168) (i5 : s30 (gi σ 35)) (i6 : gi σ 36 = ga τ 1 169) (i7 : s30 (gi σ 36)) (i8 : gi σ 37 = ga τ 1 170) (i9 : s30 (gi σ 37)) (i10 : gi σ 38 = ga τ 1 171)
    (f6 : gi s 6 = nI ci) (f1 : gi s 1 = gi σ 35) (f2 : gi s 2 = gi σ 36) (f3 : gi s 3 = gi σ 37) (f4 : gi s 4 = gi σ 38) (f0 : gi s 0 = gi σ 0) (f5 : gi s 5 = gi σ 5) (fr : ∀ k, 33 ≤ k → gi s k = gi σ k) (fa : ∀ a, ga s a = ga σ a) (fl : ∀ j, gl s j = gl σ j) :
    ∃ r σ1 τ1, LX11_restore_77 (fun σ14 => bd (f_X11_forgetSearch σ14) (fun σ16 => some ((gi σ16 6), σ16))) n s 0 = some (r, σ1) ∧ LX12_restore_43 (fun σ13 => ld (ga σ13 0) 173 172 (fun v14 => some (v14, σ13))) n (cpA 0 1 τ) 0 = some (r, τ1) ∧ Rel σ1 τ1 := by
  obtain ⟨w1, w2, w3, w4⟩ := cpA_p (to := 0) (fr := 1) (by decide) τ
  obtain ⟨k1, k2, k3, k4, k5⟩ := clr_all (x := s) (y := cpA 0 1 τ) h.1.1 hci f6 (by rw [w4 172 (by omega), i2]) (fun j hj => (h.2.2.2.2.2.2.1 j hj).same (by rw [fa]) (by rw [fa]) (by rw [w2 3 (by decide)]) (by rw [w2 4 (by decide)]) (fun i _ => by rw [fl]) (fun i _ => by rw [w3]))
  rw [clrC_L (by omega), clrM_L (by omega)]
  generalize fo clrC 8 s = x at k1 k3 k5 ⊢
  generalize fo clrM 8 (cpA 0 1 τ) = y at k2 k4 k5 ⊢
  have y0 := k4 0 (by decide)
  have tab : ∀ i, i < 173 → ga y 0 i = ga τ 1 i := fun i hi => by rw [y0, w4 i hi]
  have xs : ∀ a, a ≠ 19 → a ≠ 20 → ga x a = ga σ a := fun a h1 h2 => by rw [k3 a h1 h2, fa]
  have x0 := xs 0 (by decide) (by decide); have x1 := xs 1 (by decide) (by decide); have x2 := xs 2 (by decide) (by decide); have x3 := xs 3 (by decide) (by decide); have x4 := xs 4 (by decide) (by decide); have x5 := xs 5 (by decide) (by decide); have x6 := xs 6 (by decide) (by decide); have x7 := xs 7 (by decide) (by decide)
  have tabC : ∀ {f : Nat → Int32} {σ' : SC}, (∀ i, i < 168 → f i = ga τ 1 i) → (∀ a, a < 7 → ga σ' a = ga σ a) → Tab ci f σ' := by
    intro f σ' hf hs a ha
    have h24 := h.1.1
    rw [hs 0 (by omega), hs 1 (by omega), hs 2 (by omega), hs 3 (by omega), hs 4 (by omega), hs 5 (by omega), hs 6 (by omega), hf a (by omega), hf (24 + a) (by omega), hf (48 + a) (by omega), hf (72 + a) (by omega), hf (96 + a) (by omega), hf (120 + a) (by omega), hf (144 + a) (by omega)]
    exact i3 a ha
  refine ⟨nI ci, si (si (si x 16 0) 18 0) 19 0, y, ?_, ?_, ci, ?_⟩
  · have e : gi (si (si (si x 16 0) 18 0) 19 0) 6 = nI ci := by
      show gi x 6 = _
      rw [k1, f6]
    rw [← e]; rfl
  · rw [ld172, tab 172 (by omega), i2]
  · have g : ∀ k, k ≠ 16 → k ≠ 18 → k ≠ 19 → gi (si (si (si x 16 0) 18 0) 19 0) k = gi s k := by
      intro k h1 h2 h3
      simp only [gi_si, if_neg h1, if_neg h2, if_neg h3, k1]
    have a' : ∀ a, a ≠ 19 → a ≠ 20 → ga (si (si (si x 16 0) 18 0) 19 0) a = ga σ a := fun a h1 h2 => xs a h1 h2
    have as' : ∀ a, a < 8 → ga (si (si (si x 16 0) 18 0) 19 0) a = ga σ a := fun a h1 => xs a (by omega) (by omega)
    generalize hv : si (si (si x 16 0) 18 0) 19 0 = v at g a' as'
    have v16 : gi v 16 = 0 ∧ gi v 18 = 0 ∧ gi v 19 = 0 := by subst hv; exact ⟨rfl, rfl, rfl⟩
    have hv0 := as' 0 (by decide); have hv1 := as' 1 (by decide); have hv2 := as' 2 (by decide); have hv3 := as' 3 (by decide); have hv4 := as' 4 (by decide); have hv5 := as' 5 (by decide); have hv6 := as' 6 (by decide); have hv7 := as' 7 (by decide)
    have hsh : ∀ j, j < 8 → Shf ci v y j := fun j hj => (k5 j hj).same (by subst hv; rfl) (by subst hv; rfl) rfl rfl (fun i _ => by subst hv; rfl) (fun i _ => rfl)
    have h24 := h.1.1
    refine h.table ⟨by omega, ?_, ?_, ?_, ?_, ?_, ?_, ?_, ?_, ?_⟩ (tabC (fun i hi => tab i (by omega)) (fun a ha => as' a (by omega))) (fun a ha => ?_) ?_ ?_ ?_ ?_ ?_ ?_ ?_ ?_ hsh (Or.inr ⟨?_, ?_, ci, Nat.le_refl ci, ?_, ?_, tabC (fun i hi => ?_) (fun a ha => as' a (by omega)), ?_, ?_, ?_, ?_, ?_, ?_, ?_⟩) v16
    · rw [g 6 (by decide) (by decide) (by decide), f6]
    · rw [tab 172 (by omega), i2]
    · rw [g 1 (by decide) (by decide) (by decide), f1, tab 168 (by omega), i4]
    · rw [g 1 (by decide) (by decide) (by decide), f1]; exact i5
    · rw [g 2 (by decide) (by decide) (by decide), f2, tab 169 (by omega), i6]
    · rw [g 2 (by decide) (by decide) (by decide), f2]; exact i7
    · rw [g 3 (by decide) (by decide) (by decide), f3, tab 170 (by omega), i8]
    · rw [g 3 (by decide) (by decide) (by decide), f3]; exact i9
    · rw [g 4 (by decide) (by decide) (by decide), f4, tab 171 (by omega), i10]
    · have := h.2.2.1 a (by omega)
      simp only [WfA, hv0, hv1, hv2, hv3, hv4, hv5, hv6, hv7] at this ⊢
      exact this
    · rw [g 0 (by decide) (by decide) (by decide), f0]
    · rw [g 5 (by decide) (by decide) (by decide), f5]
    · exact a' 17 (by decide) (by decide)
    · exact a' 18 (by decide) (by decide)
    · rw [k2, w1]
    · rw [k2, w1]
    · rw [k4 2 (by decide), w2 2 (by decide)]
    · rw [k4 13 (by decide), w2 13 (by decide)]
    · rw [g 33 (by decide) (by decide) (by decide), fr 33 (by decide), q1]
    · rw [k2, w1, q2]
    · rw [g 34 (by decide) (by decide) (by decide), fr 34 (by decide), i1]
    · rw [k4 1 (by decide), w2 1 (by decide), i2]
    · rw [k4 1 (by decide), w2 1 (by decide)]
    · rw [g 35 (by decide) (by decide) (by decide), fr 35 (by decide), k4 1 (by decide), w2 1 (by decide), i4]
    · rw [g 35 (by decide) (by decide) (by decide), fr 35 (by decide)]; exact i5
    · rw [g 36 (by decide) (by decide) (by decide), fr 36 (by decide), k4 1 (by decide), w2 1 (by decide), i6]
    · rw [g 36 (by decide) (by decide) (by decide), fr 36 (by decide)]; exact i7
    · rw [g 37 (by decide) (by decide) (by decide), fr 37 (by decide), k4 1 (by decide), w2 1 (by decide), i8]
    · rw [g 37 (by decide) (by decide) (by decide), fr 37 (by decide)]; exact i9
    · rw [g 38 (by decide) (by decide) (by decide), fr 38 (by decide), k4 1 (by decide), w2 1 (by decide), i10]
theorem ag_restore_ok {n : Nat} (hn : 1000000 ≤ n) : ag_restore n Rel := by
  rintro σ τ ⟨c, h⟩
  unfold f_X11_restore f_X12_restore
  rcases h.2.2.2.2.2.2.2.1 with ⟨q1, q2⟩ | ⟨q1, q2, ci, hci, i1, i2, i3, i4, i5, i6, i7, i8, i9, i10⟩
  · rw [q1, q2, if_pos rfl, if_pos rfl, RC5, RM5]
    exact ⟨_, _, _, rfl, rfl, c, h.ref 5⟩
  · rw [q1, q2, if_neg one_ne, if_neg one_ne, restore_L (by omega)]
    simp only [lt_e]
    exact restore_main hn h hci q1 q2 i1 i2 i3 i4 i5 i6 i7 i8 i9 i10 i1 rfl rfl rfl rfl rfl rfl (fun k hk => by
      simp only [gi_si]
      rw [if_neg (by omega), if_neg (by omega), if_neg (by omega), if_neg (by omega), if_neg (by omega)]) (fun _ => rfl) (fun _ => rfl)
