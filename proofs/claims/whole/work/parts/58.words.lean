/-! READ: sets of facts, and words -/
noncomputable def flq (z : Nat) (w : Nat → Int32) : Nat → Nat ⊕ Nat → Int32 → (Nat ⊕ Nat) × Int32
  | 0, q, v => (q, v)
  | _ + 1, .inr e, v => (.inr e, v)
  | f + 1, .inl p, v => if p < z ∧ w p = 44 then flq z w f (numq z w 0 29 (.inl (p + 1))).1 (v ||| pw (numq z w 0 29 (.inl (p + 1))).2) else (.inl p, v)
theorem flq_y {z p f : Nat} {w : Nat → Int32} {v : Int32} (h : p < z ∧ w p = 44) : flq z w (f + 1) (.inl p) v = flq z w f (numq z w 0 29 (.inl (p + 1))).1 (v ||| pw (numq z w 0 29 (.inl (p + 1))).2) := if_pos h
theorem flq_n {z p f : Nat} {w : Nat → Int32} {v : Int32} (h : ¬ (p < z ∧ w p = 44)) : flq z w (f + 1) (.inl p) v = (.inl p, v) := if_neg h
noncomputable def fcq (z : Nat) (w : Nat → Int32) : Nat ⊕ Nat → (Nat ⊕ Nat) × Int32
  | .inl p => by classical exact if dgq z w p then flq z w 160 (numq z w 0 29 (.inl p)).1 (pw (numq z w 0 29 (.inl p)).2) else (.inl p, 0)
  | .inr f => (.inr f, 0)
theorem fcq_y {z p : Nat} {w : Nat → Int32} (h : dgq z w p) : fcq z w (.inl p) = flq z w 160 (numq z w 0 29 (.inl p)).1 (pw (numq z w 0 29 (.inl p)).2) := if_pos h
theorem fcq_n {z p : Nat} {w : Nat → Int32} (h : ¬ dgq z w p) : fcq z w (.inl p) = (.inl p, 0) := if_neg h
/-- what numq gives -/
theorem numq_r {z lo hi : Nat} {w : Nat → Int32} (q : Nat ⊕ Nat) : (numq z w lo hi q).2 ≤ hi ∧ (∀ p p', q = .inl p → (numq z w lo hi q).1 = .inl p' → p + 1 ≤ p' ∧ lo ≤ (numq z w lo hi q).2) := by
  cases q with
  | inr f => exact ⟨Nat.zero_le _, fun p p' e => by cases e⟩
  | inl p =>
    by_cases h : dgq z w p
    · obtain ⟨v, l, e, hl⟩ : ∃ v l, nvq z w p = (v, l) ∧ 1 ≤ l := by
        by_cases h2 : dgq z w (p + 1)
        · exact ⟨_, _, nvq_2 h2, by omega⟩
        · exact ⟨_, _, nvq_1 h2, by omega⟩
      by_cases h2 : lo ≤ v ∧ v ≤ hi
      · rw [numq_i h e h2]
        refine ⟨h2.2, fun p1 p' e1 e2 => ?_⟩
        cases e1; cases e2
        exact ⟨by omega, h2.1⟩
      · rw [numq_o h e h2]
        exact ⟨Nat.zero_le _, fun p1 p' e1 e2 => by cases e2⟩
    · rw [numq_b h]
      exact ⟨Nat.zero_le _, fun p1 p' e1 e2 => by cases e2⟩
theorem flq_s {z : Nat} {w : Nat → Int32} : ∀ (d : Nat) (q : Nat ⊕ Nat) (v : Int32), s30 v → s30 (flq z w d q v).2
  | 0, q, v, h => h
  | d + 1, .inr e, v, h => h
  | d + 1, .inl p, v, h => by
    by_cases q : p < z ∧ w p = 44
    · rw [flq_y q]
      exact flq_s d _ _ (s30_or h (s30_pw (by have := (numq_r (z := z) (lo := 0) (hi := 29) (w := w) (.inl (p + 1))).1; omega)))
    · rw [flq_n q]; exact h
theorem fcq_s {z : Nat} {w : Nat → Int32} (q : Nat ⊕ Nat) : s30 (fcq z w q).2 := by
  cases q with
  | inr f => exact s30_0
  | inl p =>
    by_cases h : dgq z w p
    · rw [fcq_y h]
      exact flq_s _ _ _ (s30_pw (by have := (numq_r (z := z) (lo := 0) (hi := 29) (w := w) (.inl p)).1; omega))
    · rw [fcq_n h]; exact s30_0
/-- the class -/
theorem flq_C {j z : Nat} {w : Nat → Int32} (K : SC → Int32 → Option (Int32 × SC)) : ∀ (d f y2 : Nat) (s : SC) (q : Nat ⊕ Nat) (v y : Int32), y2 + d = 160 → d < f → CSt j z w s → CQ z s q → (∀ p, q = .inl p → y = v) →
    ∃ s' y', LX9_readFacts_32 K f s y (nI y2) = K s' y' ∧ CQ z s' (flq z w d q v).1 ∧ FrS s s' ∧ ∀ p', (flq z w d q v).1 = .inl p' → y' = (flq z w d q v).2 := by
  intro d
  induction d with
  | zero =>
    intro f y2 s q v y h1 h2 h hq hv
    obtain ⟨f, rfl⟩ : ∃ f', f = f' + 1 := ⟨f - 1, by omega⟩
    rw [LX9_readFacts_32, if_pos (show (160 : Int32) ≤ nI y2 from nI_le (a := 160) (by omega) (by omega))]
    exact ⟨s, y, rfl, hq, FrS.rf s, fun p' e => hv p' e⟩
  | succ d ih =>
    intro f y2 s q v y h1 h2 h hq hv
    obtain ⟨f, rfl⟩ : ∃ f', f = f' + 1 := ⟨f - 1, by omega⟩
    rw [LX9_readFacts_32, if_neg (show ¬ (160 : Int32) ≤ nI y2 from nI_ge (b := 160) (by omega) (by omega))]
    cases q with
    | inr e =>
      have hq2 := hq
      obtain ⟨g1, g2⟩ := hq2
      rw [g2, if_neg (nI_nm1 (by have := h.2.2.1; omega))]
      exact ⟨s, y, rfl, hq, FrS.rf s, fun p' e => by cases e⟩
    | inl p =>
      have hq2 := hq
      obtain ⟨g1, g2, g3⟩ := hq2
      have hz := h.2.2.1
      have hy := hv p rfl
      subst hy
      rw [if_pos g3, peek_C h g2 g1, bd_e]
      by_cases w1 : p < z ∧ w p = 44
      · rw [if_pos w1.1, if_pos w1.2, lt_e, g2, nI_p1, flq_y w1]
        have f1 : FrS s (si s 23 (nI (p + 1))) := FrS.i _ (Or.inl rfl)
        obtain ⟨s1, v1, e1, k1, k2, k3⟩ := number_C (lo := 0) (hi := 29) (q := .inl (p + 1)) (h.same f1) ⟨by omega, rfl, g3⟩ (by omega) (by omega)
        have e1 : f_X9_readNumber (si s 23 (nI (p + 1))) 0 29 = some (v1, s1) := e1
        rw [e1, bd2_e]
        simp only [lt_e, nI_p1]
        obtain ⟨s2, y', e2, r1, r2, r3⟩ := ih f (y2 + 1) s1 (numq z w 0 29 (.inl (p + 1))).1 (y ||| pw (numq z w 0 29 (.inl (p + 1))).2) (y ||| (1 <<< (v1 &&& 31))) (by omega) (by omega) ((h.same f1).same k2) k1 (fun p' e => by rw [k3 p' e]; rfl)
        exact ⟨s2, y', e2, r1, (f1.tr k2).tr r2, r3⟩
      · rw [flq_n w1]
        have : ¬ (if p < z then w p else -1) = 44 := by
          by_cases w2 : p < z
          · rw [if_pos w2]; exact fun e => w1 ⟨w2, e⟩
          · rw [if_neg w2]; decide
        rw [if_neg this]
        exact ⟨s, y, rfl, hq, FrS.rf s, fun p' _ => rfl⟩
theorem facts_C {n j z : Nat} {w : Nat → Int32} {s : SC} {q : Nat ⊕ Nat} (hn : 1000000 ≤ n) (h : CSt j z w s) (hq : CQ z s q) :
    ∃ s' y', f_X9_readFacts n s = some (y', s') ∧ CQ z s' (fcq z w q).1 ∧ FrS s s' ∧ ∀ p', (fcq z w q).1 = .inl p' → y' = (fcq z w q).2 := by
  unfold f_X9_readFacts
  cases q with
  | inr e =>
    have hq2 := hq
    obtain ⟨g1, g2⟩ := hq2
    rw [g2, if_neg (nI_nm1 (by have := h.2.2.1; omega))]
    exact ⟨s, 0, rfl, hq, FrS.rf s, fun p' e => by cases e⟩
  | inl p =>
    have hq2 := hq
    obtain ⟨g1, g2, g3⟩ := hq2
    rw [if_pos g3, peek_C h g2 g1, bd_e]
    by_cases w1 : dgq z w p
    · rw [if_pos w1.1, fcq_y w1]
      rcases isDg_C (w p) with ⟨_, e⟩ | ⟨e, _⟩
      rotate_left
      · exact absurd w1.2 e
      obtain ⟨s1, v1, e1, k1, k2, k3⟩ := number_C (lo := 0) (hi := 29) h hq (by omega) (by omega)
      have e1 : f_X9_readNumber s 0 29 = some (v1, s1) := e1
      rw [e, if_neg one_ne, e1, bd2_e, lt_e]
      obtain ⟨s2, y', e2, r1, r2, r3⟩ := flq_C (fun σ15 w16 => some (w16, σ15)) 160 n 0 s1 (numq z w 0 29 (.inl p)).1 (pw (numq z w 0 29 (.inl p)).2) (1 <<< (v1 &&& 31)) (by omega) (by omega) (h.same k2) k1 (fun p' e => by rw [k3 p' e]; rfl)
      exact ⟨s2, y', e2, r1, k2.tr r2, r3⟩
    · have e0 : f_X9_isDigit (if p < z then w p else -1) = 0 := by
        by_cases q3 : p < z
        · rw [if_pos q3]
          rcases isDg_C (w p) with ⟨e, _⟩ | ⟨_, e⟩
          · exact absurd ⟨q3, e⟩ w1
          · exact e
        · rw [if_neg q3]; decide
      rw [e0, if_pos rfl, fcq_n w1]
      exact ⟨s, 0, rfl, hq, FrS.rf s, fun p' _ => rfl⟩
/-- the reference -/
theorem flq_M {j z : Nat} {w : Nat → Int32} (K : SC → Int32 → Option (Int32 × SC)) : ∀ (d f : Nat) (s : SC) (q : Nat ⊕ Nat) (v y : Int32), d < f → (∀ p, q = .inl p → z < p + d) → MStt j z w s → MQr z s q → (∀ p, q = .inl p → y = v) →
    ∃ s' y', LX12_set__28 K f s y = K s' y' ∧ MQr z s' (flq z w d q v).1 ∧ FrT s s' ∧ ∀ p', (flq z w d q v).1 = .inl p' → y' = (flq z w d q v).2 := by
  intro d
  induction d with
  | zero =>
    intro f s q v y h2 hd h hq hv
    obtain ⟨f, rfl⟩ : ∃ f', f = f' + 1 := ⟨f - 1, by omega⟩
    cases q with
    | inr e =>
      have hq2 := hq
      obtain ⟨g1, g2, g3⟩ := hq2
      rw [LX12_set__28, g2, if_neg one_ne]
      exact ⟨s, y, rfl, hq, FrT.rf s, fun p' e => by cases e⟩
    | inl p => have := hd p rfl; have := hq.1; omega
  | succ d ih =>
    intro f s q v y h2 hd h hq hv
    obtain ⟨f, rfl⟩ : ∃ f', f = f' + 1 := ⟨f - 1, by omega⟩
    rw [LX12_set__28]
    cases q with
    | inr e =>
      have hq2 := hq
      obtain ⟨g1, g2, g3⟩ := hq2
      rw [g2, if_neg one_ne]
      exact ⟨s, y, rfl, hq, FrT.rf s, fun p' e => by cases e⟩
    | inl p =>
      have hq2 := hq
      obtain ⟨g1, g2, g3, g4⟩ := hq2
      have hz := h.2.2.1
      have hy := hv p rfl
      subst hy
      have hzp := hd p rfl
      rw [if_pos g3, h.1, ld_n j rfl h.2.1 (by omega), h.2.2.2.1, g2]
      by_cases w2 : p < z
      · rw [if_neg (nI_ge w2 (by omega)), here_M h g2 w2, bd_e]
        by_cases w3 : w p = 44
        · rw [if_pos w3, lt_e, nI_p1, flq_y ⟨w2, w3⟩]
          have f1 : FrT s (si s 3 (nI (p + 1))) := FrT.i _ (Or.inl rfl)
          obtain ⟨s1, v1, e1, k1, k2, k3⟩ := number_M (lo := 0) (hi := 29) (q := .inl (p + 1)) (h.same f1) ⟨by omega, rfl, g3, g4⟩ (by omega) (by omega)
          have e1 : f_X12_number (si s 3 (nI (p + 1))) 0 29 = some (v1, s1) := e1
          rw [e1, bd2_e]
          simp only [lt_e]
          obtain ⟨s2, y', e2, r1, r2, r3⟩ := ih f s1 (numq z w 0 29 (.inl (p + 1))).1 (y ||| pw (numq z w 0 29 (.inl (p + 1))).2) (y ||| (1 <<< (v1 &&& 31))) (by omega) (fun p' e => by have := ((numq_r (z := z) (lo := 0) (hi := 29) (w := w) (.inl (p + 1))).2 (p + 1) p' rfl e).1; omega) ((h.same f1).same k2) k1 (fun p' e => by rw [k3 p' e]; rfl)
          exact ⟨s2, y', e2, r1, (f1.tr k2).tr r2, r3⟩
        · rw [if_neg w3, flq_n (fun z => w3 z.2)]
          exact ⟨s, y, rfl, hq, FrT.rf s, fun p' _ => rfl⟩
      · rw [if_pos (nI_le (by omega) (by omega)), flq_n (fun z => w2 z.1)]
        exact ⟨s, y, rfl, hq, FrT.rf s, fun p' _ => rfl⟩
theorem facts_M {n j z : Nat} {w : Nat → Int32} {s : SC} {q : Nat ⊕ Nat} (hn : 1000000 ≤ n) (h : MStt j z w s) (hq : MQr z s q) :
    ∃ s' y', f_X12_set_ n s = some (y', s') ∧ MQr z s' (fcq z w q).1 ∧ FrT s s' ∧ ∀ p', (fcq z w q).1 = .inl p' → y' = (fcq z w q).2 := by
  have hz := h.2.2.1
  unfold f_X12_set_
  cases q with
  | inr e =>
    have hq2 := hq
    obtain ⟨g1, g2, g3⟩ := hq2
    rw [g2, if_neg one_ne]
    exact ⟨s, 0, rfl, hq, FrT.rf s, fun p' e => by cases e⟩
  | inl p =>
    have hq2 := hq
    obtain ⟨g1, g2, g3, g4⟩ := hq2
    rw [if_pos g3]
    rcases isDg_M h g2 g1 with ⟨w1, e⟩ | ⟨w1, e⟩
    · rw [e, bd_e, if_neg one_ne, fcq_y w1]
      obtain ⟨s1, v1, e1, k1, k2, k3⟩ := number_M (lo := 0) (hi := 29) h hq (by omega) (by omega)
      have e1 : f_X12_number s 0 29 = some (v1, s1) := e1
      rw [e1, bd2_e, lt_e]
      obtain ⟨s2, y', e2, r1, r2, r3⟩ := flq_M (fun σ15 w16 => some (w16, σ15)) 160 n s1 (numq z w 0 29 (.inl p)).1 (pw (numq z w 0 29 (.inl p)).2) (1 <<< (v1 &&& 31)) (by omega) (fun p' e => by have := ((numq_r (z := z) (lo := 0) (hi := 29) (w := w) (.inl p)).2 p p' rfl e).1; omega) (h.same k2) k1 (fun p' e => by rw [k3 p' e]; rfl)
      exact ⟨s2, y', e2, r1, k2.tr r2, r3⟩
    · rw [e, bd_e, if_pos rfl, fcq_n w1]
      exact ⟨s, 0, rfl, hq, FrT.rf s, fun p' _ => rfl⟩
/-! words -/
def wdq (z : Nat) (w : Nat → Int32) (j : Nat) (q : Nat ⊕ Nat) : Nat ⊕ Nat := fo (fun i q => exq z w (sch j i) q) (sLen.getD j 0) q
def cpq (full : Bool) (p0 : Nat) (q : Nat ⊕ Nat) : Nat ⊕ Nat := if full = true then fpq p0 q else q
def wrq (z : Nat) (w : Nat → Int32) (full : Bool) (p0 j : Nat) (q : Nat ⊕ Nat) : Nat ⊕ Nat := fo (fun i q => exq z w (sch j i) (if i + 1 = sLen.getD j 0 then cpq full p0 q else q)) (sLen.getD j 0) q
theorem sl6 : ∀ j, j < 8 → 1 ≤ sLen.getD j 0 ∧ sLen.getD j 0 ≤ 6 := by decide
theorem sch_n (i k : Nat) : sch i k ≠ -1 := by
  intro e
  have := congrArg (fun x => bt x 31) e
  simp only [sch, b_and, b_255, b_m1 31 (by omega)] at this
  simp at this
theorem sc_i {β : Type} {j i : Nat} (hi : i < sLen.getD j 0) (hl : sLen.getD j 0 < 2 ^ 31) (K : Int32 → Option β) : sc j (nI i) K = K (sch j i) := by
  unfold sc
  rw [if_pos (gin_nI hi hl), nI_clamp (by omega)]
theorem word_C {n j0 j z : Nat} {w : Nat → Int32} {s : SC} {q : Nat ⊕ Nat} (hn : 1000000 ≤ n) (h : CSt j0 z w s) (hq : CQ z s q) (hj : j < 8) : ∃ s', f_X9_expectWord n s j = some s' ∧ CQ z s' (wdq z w j q) ∧ FrS s s' := by
  have hL := sl6 j hj
  unfold f_X9_expectWord wdq
  have b := loop_rel (L := fun f i s => LX9_expectWord_2 j (fun σ5 => some σ5) f s (nI i)) (K := fun s => some s) (g := fun i q => exq z w (sch j i) q) (c := sLen.getD j 0) (n := n) (x := s) (y := q) (fun _ s1 q1 => CQ z s1 q1 ∧ FrS s s1) (by omega) ⟨hq, FrS.rf s⟩ ?_ ?_
  · obtain ⟨s', e, p1, p2⟩ := b
    exact ⟨s', e, p1, p2⟩
  · intro f s1 q1 _
    show LX9_expectWord_2 j _ (f + 1) s1 (nI (sLen.getD j 0)) = _
    rw [LX9_expectWord_2, if_pos (show sln j ≤ nI (sLen.getD j 0) from nI_le (Nat.le_refl _) (by omega))]
  · intro f i s1 q1 hi hI
    right
    obtain ⟨s2, e, k1, k2⟩ := expect_C (h.same hI.2) hI.1 (sch_n j i)
    refine ⟨s2, ?_, k1, hI.2.tr k2⟩
    show LX9_expectWord_2 j _ (f + 1) s1 (nI i) = LX9_expectWord_2 j _ f s2 (nI (i + 1))
    rw [LX9_expectWord_2, if_neg (show ¬ sln j ≤ nI i from nI_ge hi (by omega)), sc_i hi (by omega), e, bd_e, lt_e, nI_p1]
theorem word_M {n j0 j z p0 : Nat} {w : Nat → Int32} {t : SC} {q : Nat ⊕ Nat} {y1 : Int32} {full : Bool} (hn : 1000000 ≤ n) (h : MStt j0 z w t) (hq : MQr z t q) (hj : j < 8) (hp : p0 ≤ z) (hf : full = true ↔ (y1 = 97 ∧ ga t 0 172 + gi t 6 = 24)) :
    ∃ t', LX12_word_44 y1 j (nI p0) (fun σ13 => some σ13) n t 0 = some t' ∧ MQr z t' (wrq z w full p0 j q) ∧ FrT t t' := by
  have hL := sl6 j hj
  unfold wrq
  have b := loop_rel (L := fun f i s => LX12_word_44 y1 j (nI p0) (fun σ13 => some σ13) f s (nI i)) (K := fun s => some s) (g := fun i q => exq z w (sch j i) (if i + 1 = sLen.getD j 0 then cpq full p0 q else q)) (c := sLen.getD j 0) (n := n) (x := t) (y := q) (fun _ s1 q1 => MQr z s1 q1 ∧ FrT t s1) (by omega) ⟨hq, FrT.rf t⟩ ?_ ?_
  · obtain ⟨s', e, p1, p2⟩ := b
    exact ⟨s', e, p1, p2⟩
  · intro f s1 q1 _
    show LX12_word_44 y1 j (nI p0) _ (f + 1) s1 (nI (sLen.getD j 0)) = _
    rw [LX12_word_44, if_pos (show sln j ≤ nI (sLen.getD j 0) from nI_le (Nat.le_refl _) (by omega))]
  · intro f i s1 q1 hi hI
    right
    have go : ∀ (s2 : SC) (q2 : Nat ⊕ Nat), MQr z s2 q2 → FrT t s2 → ∃ s3, bd (f_X12_must s2 (sch j i)) (fun σ8 => LX12_word_44 y1 j (nI p0) (fun σ13 => some σ13) f σ8 (nI (i + 1))) = LX12_word_44 y1 j (nI p0) (fun σ13 => some σ13) f s3 (nI (i + 1)) ∧ MQr z s3 (exq z w (sch j i) q2) ∧ FrT t s3 := by
      intro s2 q2 k1 k2
      obtain ⟨s3, e, r1, r2⟩ := must_M (ch := sch j i) (h.same k2) k1
      rw [e, bd_e]
      exact ⟨s3, rfl, r1, k2.tr r2⟩
    have e6 : gi s1 6 = gi t 6 := hI.2.1 6 (by omega) (by omega) (by omega)
    have e0 : ga s1 0 = ga t 0 := hI.2.2.1 0
    show ∃ x', LX12_word_44 y1 j (nI p0) _ (f + 1) s1 (nI i) = LX12_word_44 y1 j (nI p0) _ f x' (nI (i + 1)) ∧ _
    rw [LX12_word_44, if_neg (show ¬ sln j ≤ nI i from nI_ge hi (by omega))]
    simp only [jn_e, lt_e, nI_p1, sc_i hi (show sLen.getD j 0 < 2 ^ 31 by omega)]
    have es : sln j - 1 = nI (sLen.getD j 0 - 1) := pk_sub (a := sLen.getD j 0) (b := 1) (by omega)
    rw [es]
    by_cases w1 : i + 1 = sLen.getD j 0
    · rw [if_pos (show nI i = nI (sLen.getD j 0 - 1) from congrArg nI (by omega)), if_pos w1]
      unfold cpq
      by_cases w2 : full = true
      · obtain ⟨u1, u2⟩ := hf.mp w2
        rw [if_pos u1, ld172, e0, e6, if_pos u2, if_pos w2]
        cases q1 with
        | inl p =>
          obtain ⟨s2, k1, k2, k3⟩ := fails_M hI.1 hp
          rw [if_pos hI.1.2.2.1, k1, bd_e]
          exact go s2 _ k2 (hI.2.tr k3)
        | inr e =>
          rw [if_neg (show ¬ gi s1 4 = 0 by rw [hI.1.2.1]; exact one_ne)]
          exact go s1 (.inr e) hI.1 hI.2
      · rw [if_neg w2]
        by_cases w3 : y1 = 97
        · rw [if_pos w3, ld172, e0, e6, if_neg (fun z => w2 (hf.mpr ⟨w3, z⟩))]
          exact go s1 q1 hI.1 hI.2
        · rw [if_neg w3]; exact go s1 q1 hI.1 hI.2
    · rw [if_neg (show ¬ nI i = nI (sLen.getD j 0 - 1) from nI_ne (by omega) (by omega) (by omega)), if_neg w1]
      exact go s1 q1 hI.1 hI.2
theorem wrq_7 (z : Nat) (w : Nat → Int32) (full : Bool) (p0 : Nat) (q : Nat ⊕ Nat) : wrq z w full p0 7 q = exq z w 32 (cpq full p0 (wdq z w 3 q)) := by
  have c0 : sch 7 0 = sch 3 0 := by decide
  have c1 : sch 7 1 = sch 3 1 := by decide
  have c2 : sch 7 2 = sch 3 2 := by decide
  have c3 : sch 7 3 = 32 := by decide
  show exq z w (sch 7 3) (cpq full p0 (exq z w (sch 7 2) (exq z w (sch 7 1) (exq z w (sch 7 0) q)))) = exq z w 32 (cpq full p0 (exq z w (sch 3 2) (exq z w (sch 3 1) (exq z w (sch 3 0) q))))
  rw [c0, c1, c2, c3]
theorem wrq_6 (z : Nat) (w : Nat → Int32) (p0 : Nat) (q : Nat ⊕ Nat) : wrq z w false p0 6 q = exq z w 32 (wdq z w 2 q) := by
  have c0 : sch 6 0 = sch 2 0 := by decide
  have c1 : sch 6 1 = sch 2 1 := by decide
  have c2 : sch 6 2 = sch 2 2 := by decide
  have c3 : sch 6 3 = 32 := by decide
  show exq z w (sch 6 3) (exq z w (sch 6 2) (exq z w (sch 6 1) (exq z w (sch 6 0) q))) = exq z w 32 (exq z w (sch 2 2) (exq z w (sch 2 1) (exq z w (sch 2 0) q)))
  rw [c0, c1, c2, c3]
theorem wrq_5 (z : Nat) (w : Nat → Int32) (p0 : Nat) (q : Nat ⊕ Nat) : wrq z w false p0 5 q = exq z w 32 (wdq z w 1 q) := by
  have c0 : sch 5 0 = sch 1 0 := by decide
  have c1 : sch 5 1 = sch 1 1 := by decide
  have c2 : sch 5 2 = sch 1 2 := by decide
  have c3 : sch 5 3 = sch 1 3 := by decide
  have c4 : sch 5 4 = 32 := by decide
  show exq z w (sch 5 4) (exq z w (sch 5 3) (exq z w (sch 5 2) (exq z w (sch 5 1) (exq z w (sch 5 0) q)))) = exq z w 32 (exq z w (sch 1 3) (exq z w (sch 1 2) (exq z w (sch 1 1) (exq z w (sch 1 0) q))))
  rw [c0, c1, c2, c3, c4]
theorem wrq_4 (z : Nat) (w : Nat → Int32) (p0 : Nat) (q : Nat ⊕ Nat) : wrq z w false p0 4 q = exq z w 32 (wdq z w 0 q) := by
  have c0 : sch 4 0 = sch 0 0 := by decide
  have c1 : sch 4 1 = sch 0 1 := by decide
  have c2 : sch 4 2 = sch 0 2 := by decide
  have c3 : sch 4 3 = sch 0 3 := by decide
  have c4 : sch 4 4 = sch 0 4 := by decide
  have c5 : sch 4 5 = 32 := by decide
  show exq z w (sch 4 5) (exq z w (sch 4 4) (exq z w (sch 4 3) (exq z w (sch 4 2) (exq z w (sch 4 1) (exq z w (sch 4 0) q))))) = exq z w 32 (exq z w (sch 0 4) (exq z w (sch 0 3) (exq z w (sch 0 2) (exq z w (sch 0 1) (exq z w (sch 0 0) q)))))
  rw [c0, c1, c2, c3, c4, c5]
