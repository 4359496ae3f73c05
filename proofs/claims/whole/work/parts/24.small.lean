/-! SMALL: ranges, shelves, actions' rows; the calls that rest on nothing more -/
theorem m_0 : (0 : Int32) = 0 := rfl
theorem RC0 (σ : SC) : f_X11_refuse σ (-1) = some (-1, rfC σ 0) := refuse_C σ 0 (by decide) (by decide)
theorem RC1 (σ : SC) : f_X11_refuse σ (-2) = some (-2, rfC σ 1) := refuse_C σ 1 (by decide) (by decide)
theorem RC2 (σ : SC) : f_X11_refuse σ (-3) = some (-3, rfC σ 2) := refuse_C σ 2 (by decide) (by decide)
theorem RC3 (σ : SC) : f_X11_refuse σ (-4) = some (-4, rfC σ 3) := refuse_C σ 3 (by decide) (by decide)
theorem RC4 (σ : SC) : f_X11_refuse σ (-5) = some (-5, rfC σ 4) := refuse_C σ 4 (by decide) (by decide)
theorem RC5 (σ : SC) : f_X11_refuse σ (-6) = some (-6, rfC σ 5) := refuse_C σ 5 (by decide) (by decide)
theorem RC6 (σ : SC) : f_X11_refuse σ (-7) = some (-7, rfC σ 6) := refuse_C σ 6 (by decide) (by decide)
theorem RM0 (σ : SC) : f_X12_refused σ (-1) = some (-1, rfM σ 0) := refused_M σ 0 (by decide) (by decide)
theorem RM1 (σ : SC) : f_X12_refused σ (-2) = some (-2, rfM σ 1) := refused_M σ 1 (by decide) (by decide)
theorem RM2 (σ : SC) : f_X12_refused σ (-3) = some (-3, rfM σ 2) := refused_M σ 2 (by decide) (by decide)
theorem RM3 (σ : SC) : f_X12_refused σ (-4) = some (-4, rfM σ 3) := refused_M σ 3 (by decide) (by decide)
theorem RM4 (σ : SC) : f_X12_refused σ (-5) = some (-5, rfM σ 4) := refused_M σ 4 (by decide) (by decide)
theorem RM5 (σ : SC) : f_X12_refused σ (-6) = some (-6, rfM σ 5) := refused_M σ 5 (by decide) (by decide)
theorem RM6 (σ : SC) : f_X12_refused σ (-7) = some (-7, rfM σ 6) := refused_M σ 6 (by decide) (by decide)
theorem RS0 (σ : SC) : f_X11_refuseShifted σ (-1) = some (-11, rfC σ 0) := refuse_S σ 0 (by decide) (by decide)
theorem RS1 (σ : SC) : f_X11_refuseShifted σ (-2) = some (-12, rfC σ 1) := refuse_S σ 1 (by decide) (by decide)
theorem RS2 (σ : SC) : f_X11_refuseShifted σ (-3) = some (-13, rfC σ 2) := refuse_S σ 2 (by decide) (by decide)
theorem RS3 (σ : SC) : f_X11_refuseShifted σ (-4) = some (-14, rfC σ 3) := refuse_S σ 3 (by decide) (by decide)
theorem RS4 (σ : SC) : f_X11_refuseShifted σ (-5) = some (-15, rfC σ 4) := refuse_S σ 4 (by decide) (by decide)
theorem RS5 (σ : SC) : f_X11_refuseShifted σ (-6) = some (-16, rfC σ 5) := refuse_S σ 5 (by decide) (by decide)
theorem RB0 (σ : SC) : f_X12_refusedBelow σ (-1) = some (-11, rfM σ 0) := refusedB_M σ 0 (by decide) (by decide)
theorem RB1 (σ : SC) : f_X12_refusedBelow σ (-2) = some (-12, rfM σ 1) := refusedB_M σ 1 (by decide) (by decide)
theorem RB2 (σ : SC) : f_X12_refusedBelow σ (-3) = some (-13, rfM σ 2) := refusedB_M σ 2 (by decide) (by decide)
theorem RB3 (σ : SC) : f_X12_refusedBelow σ (-4) = some (-14, rfM σ 3) := refusedB_M σ 3 (by decide) (by decide)
theorem RB4 (σ : SC) : f_X12_refusedBelow σ (-5) = some (-15, rfM σ 4) := refusedB_M σ 4 (by decide) (by decide)
theorem RB5 (σ : SC) : f_X12_refusedBelow σ (-6) = some (-16, rfM σ 5) := refusedB_M σ 5 (by decide) (by decide)
theorem in_1 {x : Int32} {c : Nat} (hc : c < 2 ^ 30) (h : inR x c) : f_X12_in x 0 (nI c - 1) = 1 := by
  obtain ⟨a, ha, rfl⟩ := h
  unfold f_X12_in
  rw [if_neg (nI_pos (by omega)), if_neg]
  rw [Int32.lt_iff_toInt_lt, nI_toInt (by omega), show (nI c - 1).toInt = (c : Int) - 1 from pk_sub_toInt (b := 1) hc (by omega)]
  omega
theorem in_0 {x : Int32} {c : Nat} (hc : c < 2 ^ 30) (h : ¬ inR x c) : f_X12_in x 0 (nI c - 1) = 0 := by
  unfold f_X12_in
  by_cases h0 : x < 0
  · rw [if_pos h0]
  · rw [if_neg h0]
    obtain ⟨j, hj, rfl⟩ := nI_of h0
    rw [if_pos]
    rw [Int32.lt_iff_toInt_lt, nI_toInt (by omega), show (nI c - 1).toInt = (c : Int) - 1 from pk_sub_toInt (b := 1) hc (by omega)]
    rcases Nat.lt_or_ge j c with q | q
    · exact absurd ⟨j, q, rfl⟩ h
    · omega
/-- a constant range -/
theorem inc_1 {x : Int32} {lo hi j : Nat} (hx : x = nI j) (h1 : lo ≤ j) (h2 : j ≤ hi) (hh : hi < 2 ^ 31) : f_X12_in x (nI lo) (nI hi) = 1 := by
  subst hx
  unfold f_X12_in
  rw [if_neg (nI_nlt h1 (by omega)), if_neg (nI_nlt h2 (by omega))]
theorem inc_c {x : Int32} {lo hi : Nat} (hh : hi < 2 ^ 31) (hl : lo ≤ hi) : (f_X12_in x (nI lo) (nI hi) = 1 ∧ ∃ j, lo ≤ j ∧ j ≤ hi ∧ x = nI j) ∨ (f_X12_in x (nI lo) (nI hi) = 0 ∧ (x < nI lo ∨ nI hi < x)) := by
  unfold f_X12_in
  by_cases h0 : x < nI lo
  · exact Or.inr ⟨if_pos h0, Or.inl h0⟩
  · by_cases h1 : nI hi < x
    · exact Or.inr ⟨by rw [if_neg h0, if_pos h1], Or.inr h1⟩
    · refine Or.inl ⟨by rw [if_neg h0, if_neg h1], ?_⟩
      have hx0 : ¬ x < 0 := by
        intro q
        apply h0
        rw [Int32.lt_iff_toInt_lt] at q ⊢
        rw [nI_toInt (by omega)]
        have : (0 : Int32).toInt = 0 := by decide
        omega
      obtain ⟨j, hj, rfl⟩ := nI_of hx0
      refine ⟨j, ?_, ?_, rfl⟩
      · rcases Nat.lt_or_ge j lo with q | q
        · exact absurd (nI_lt q (by omega)) h0
        · exact q
      · rcases Nat.lt_or_ge hi j with q | q
        · exact absurd (nI_lt q hj) h1
        · exact q
theorem has_1 {σ : SC} {x : Int32} {c : Nat} (hc : gi σ 6 = nI c) (h24 : c ≤ 24) (h : inR x c) : f_X0_has σ x = 1 := by
  obtain ⟨a, ha, rfl⟩ := h
  unfold f_X0_has
  rw [if_neg (nI_pos (by omega)), hc, if_neg (nI_ge ha (by omega))]
theorem has_0 {σ : SC} {x : Int32} {c : Nat} (hc : gi σ 6 = nI c) (h24 : c ≤ 24) (h : ¬ inR x c) : f_X0_has σ x = 0 := by
  unfold f_X0_has
  by_cases h0 : x < 0
  · rw [if_pos h0]
  · rw [if_neg h0, hc, if_pos]
    obtain ⟨j, hj, rfl⟩ := nI_of h0
    rcases Nat.lt_or_ge j c with q | q
    · exact absurd ⟨j, q, rfl⟩ h
    · exact nI_le q hj
theorem isAct_1 {τ : SC} {x : Int32} {c : Nat} (hc : ga τ 0 172 = nI c) (h24 : c ≤ 24) (h : inR x c) : f_X12_isAction τ x = some 1 := by
  unfold f_X12_isAction
  rw [ld_n (i := 172) 172 rfl (by decide) (by decide), hc, in_1 (by omega) h]
theorem isAct_0 {τ : SC} {x : Int32} {c : Nat} (hc : ga τ 0 172 = nI c) (h24 : c ≤ 24) (h : ¬ inR x c) : f_X12_isAction τ x = some 0 := by
  unfold f_X12_isAction
  rw [ld_n (i := 172) 172 rfl (by decide) (by decide), hc, in_0 (by omega) h]
theorem shelf_c (x : Int32) : (∃ j, j < 8 ∧ x = nI j ∧ f_X11_isShelf x = 1 ∧ f_X12_isShelf x = 1) ∨ (f_X11_isShelf x = 0 ∧ f_X12_isShelf x = 0) := by
  unfold f_X12_isShelf
  rcases Classical.em (inR x 8) with h | h
  · have h2 := in_1 (c := 8) (by decide) h
    obtain ⟨j, hj, rfl⟩ := h
    refine Or.inl ⟨j, hj, rfl, ?_, h2⟩
    unfold f_X11_isShelf
    rw [if_neg (nI_pos (by omega)), if_neg (show ¬ (8 : Int32) ≤ nI j from nI_ge (b := 8) hj (by omega))]
  · refine Or.inr ⟨?_, in_0 (c := 8) (by decide) h⟩
    unfold f_X11_isShelf
    rw [inR_iff (by decide)] at h
    by_cases h0 : x < 0
    · rw [if_pos h0]
    · rw [if_neg h0, if_pos]
      exact Classical.byContradiction fun q => h ⟨h0, q⟩
theorem fact_c (x : Int32) : (∃ j, j < 30 ∧ x = nI j ∧ f_X11_isFact x = 1 ∧ f_X12_isFact x = 1) ∨ (f_X11_isFact x = 0 ∧ f_X12_isFact x = 0) := by
  unfold f_X12_isFact
  rcases Classical.em (inR x 30) with h | h
  · have h2 := in_1 (c := 30) (by decide) h
    obtain ⟨j, hj, rfl⟩ := h
    refine Or.inl ⟨j, hj, rfl, ?_, h2⟩
    unfold f_X11_isFact
    rw [if_neg (nI_pos (by omega)), if_neg (show ¬ (30 : Int32) ≤ nI j from nI_ge (b := 30) hj (by omega))]
  · refine Or.inr ⟨?_, in_0 (c := 30) (by decide) h⟩
    unfold f_X11_isFact
    rw [inR_iff (by decide)] at h
    by_cases h0 : x < 0
    · rw [if_pos h0]
    · rw [if_neg h0, if_pos]
      exact Classical.byContradiction fun q => h ⟨h0, q⟩
theorem set_c (x : Int32) : (s30 x ∧ f_X11_isFacts x = 1 ∧ f_X12_isSet x = 1) ∨ (f_X11_isFacts x = 0 ∧ f_X12_isSet x = 0) := by
  rcases Classical.em (s30 x) with h | h
  · refine Or.inl ⟨h, if_pos h, ?_⟩
    have h2 := s30_in.mp h
    unfold f_X12_isSet f_X12_in
    rw [if_neg h2.1, if_neg h2.2]
  · refine Or.inr ⟨if_neg h, ?_⟩
    unfold f_X12_isSet f_X12_in
    by_cases h0 : x < 0
    · rw [if_pos h0]
    · rw [if_neg h0, if_pos]
      exact Classical.byContradiction fun q => h (s30_in.mpr ⟨h0, q⟩)
theorem allowed_C {σ : SC} {x : Int32} {a : Nat} (h : a < 24) : f_X0_isAllowed σ x (nI a) = some (if sub (ga σ 0 a) x then 1 else 0) := by
  unfold f_X0_isAllowed
  rw [ld_n a rfl h (by omega)]
  by_cases q : sub (ga σ 0 a) x
  · rw [if_pos q, if_pos q]
  · rw [if_neg q, if_neg q]
theorem after_C {σ : SC} {x : Int32} {a : Nat} (h : a < 24) : f_X0_after σ x (nI a) = some (aft (ga σ 2 a) (ga σ 1 a) x) := by
  unfold f_X0_after
  rw [ld_n a rfl h (by omega), ld_n a rfl h (by omega)]
  rfl
theorem ld_k {α β : Type} {f : Nat → α} {n : Nat} {k : α → Option β} (b a : Nat) (h : b + a < n) (hn : n < 2 ^ 31) : ld f n (nI b + nI a) k = k (f (b + a)) := ld_n (b + a) (nI_add b a) h hn
theorem mayBe_M {τ : SC} {x : Int32} {a : Nat} (h : a < 24) : f_X12_mayBe τ x (nI a) = some (if sub (ga τ 0 a) x then 1 else 0) := by
  unfold f_X12_mayBe
  rw [ld_n (i := 0 + nI a) a (nI_z a) (by omega) (by omega)]
  unfold f_X12_has
  by_cases q : sub (ga τ 0 a) x
  · rw [if_pos q]
  · rw [if_neg q]
theorem behind_M {τ : SC} {x : Int32} {a : Nat} (h : a < 24) : f_X12_behindIt τ x (nI a) = some (aft (ga τ 0 (48 + a)) (ga τ 0 (24 + a)) x) := by
  unfold f_X12_behindIt
  rw [ld_n (i := 48 + nI a) (48 + a) (nI_add 48 a) (by omega) (by omega), ld_n (i := 24 + nI a) (24 + a) (nI_add 24 a) (by omega) (by omega)]
  rfl
theorem ag_fault_ok (n : Nat) : ag_fault n Rel := by
  rintro σ τ ⟨c, h⟩
  exact ⟨gi σ 5, rfl, h.2.2.2.1.symm, ⟨c, h⟩⟩
theorem ag_seed_ok (n : Nat) : ag_seed n Rel := by
  rintro σ τ a1 ⟨c, h⟩
  obtain ⟨⟨n1, n2, n3, n4, n5, n6, n7, n8, n9, n10⟩, h2, h3, h4, h5, h6, h7, h8, h9⟩ := h
  refine ⟨gi σ 4, si σ 4 a1, sa τ 0 (upd (ga τ 0) 171 a1), rfl, ?_, c, ⟨n1, n2, ?_, ?_, n5, ?_, n7, ?_, n9, ?_⟩, ?_, h3, h4, h5, h6, h7, h8, h9⟩
  · unfold f_X12_seed
    rw [ld_n (i := 171) 171 rfl (by decide) (by decide), lt_e, ck_n (i := 171) 171 rfl (by decide) (by decide), n10]
    rfl
  · show upd (ga τ 0) 171 a1 172 = _
    rw [ud_s, if_neg (by decide)]; exact n3
  · show gi σ 1 = upd (ga τ 0) 171 a1 168
    rw [ud_s, if_neg (by decide)]; exact n4
  · show gi σ 2 = upd (ga τ 0) 171 a1 169
    rw [ud_s, if_neg (by decide)]; exact n6
  · show gi σ 3 = upd (ga τ 0) 171 a1 170
    rw [ud_s, if_neg (by decide)]; exact n8
  · show a1 = upd (ga τ 0) 171 a1 171
    rw [ud_s, if_pos rfl]
  · intro a ha
    have := h2 a ha
    show upd (ga τ 0) 171 a1 a = _ ∧ upd (ga τ 0) 171 a1 (24 + a) = _ ∧ upd (ga τ 0) 171 a1 (48 + a) = _ ∧ upd (ga τ 0) 171 a1 (72 + a) = _ ∧ upd (ga τ 0) 171 a1 (96 + a) = _ ∧ upd (ga τ 0) 171 a1 (120 + a) = _ ∧ upd (ga τ 0) 171 a1 (144 + a) = _
    simp only [ud_s]
    rw [if_neg (by omega), if_neg (by omega), if_neg (by omega), if_neg (by omega), if_neg (by omega), if_neg (by omega), if_neg (by omega)]
    exact this
theorem ag_then_ok (n : Nat) : ag_then n Rel := by
  rintro σ τ a1 a2 ⟨c, h⟩
  have hn := h.1
  unfold f_X11_then f_X12_then
  rcases Classical.em (inR a2 c) with ha | ha
  · rw [has_1 hn.2.1 hn.1 ha, isAct_1 hn.2.2.1 hn.1 ha]
    obtain ⟨a, hac, rfl⟩ := ha
    have ht := h.2.1 a hac
    have h24 := hn.1
    simp only [bd_e, if_neg one_ne]
    rcases set_c a1 with ⟨hs, e1, e2⟩ | ⟨e1, e2⟩
    · rw [e1, e2, allowed_C (by omega), mayBe_M (by omega), ht.1]
      simp only [bd_e, if_neg one_ne]
      by_cases q : sub (ga σ 0 a) a1
      · refine ⟨aft (ga σ 2 a) (ga σ 1 a) a1, σ, τ, ?_, ?_, c, h⟩
        · rw [if_pos q, if_neg one_ne, after_C (by omega)]; rfl
        · rw [if_pos q, if_neg one_ne, behind_M (by omega), ht.2.1, ht.2.2.1]; rfl
      · refine ⟨-6, rfC σ 5, rfM τ 5, ?_, ?_, c, h.ref 5⟩
        · rw [if_neg q, if_pos rfl, RC5]; rfl
        · rw [if_neg q, if_pos rfl, RM5]; rfl
    · refine ⟨-6, rfC σ 5, rfM τ 5, ?_, ?_, c, h.ref 5⟩
      · rw [e1, if_pos rfl, RC5]; rfl
      · rw [e2, if_pos rfl, RM5]; rfl
  · refine ⟨-1, rfC σ 0, rfM τ 0, ?_, ?_, c, h.ref 0⟩
    · rw [has_0 hn.2.1 hn.1 ha, if_pos rfl, RC0]; rfl
    · rw [isAct_0 hn.2.2.1 hn.1 ha, bd_e, if_pos rfl, RM0]; rfl
