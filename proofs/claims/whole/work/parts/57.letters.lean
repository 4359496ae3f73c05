/-! READ: letters and numbers, both sides after one picture: inl p stands at p, inr f has its fault at f -/
def exq (z : Nat) (w : Nat → Int32) (ch : Int32) : Nat ⊕ Nat → Nat ⊕ Nat
  | .inl p => if p < z ∧ w p = ch then .inl (p + 1) else .inr p
  | .inr f => .inr f
def fpq (p0 : Nat) : Nat ⊕ Nat → Nat ⊕ Nat
  | .inl _ => .inr p0
  | .inr f => .inr f
def dgt (v : Int32) : Prop := ¬ v < 48 ∧ ¬ 57 < v
def dgq (z : Nat) (w : Nat → Int32) (p : Nat) : Prop := p < z ∧ dgt (w p)
def dvq (w : Nat → Int32) (p : Nat) : Nat := (w p).toNatClampNeg - 48
theorem dgt_n {v : Int32} (h : dgt v) : ∃ x, 48 ≤ x ∧ x ≤ 57 ∧ v = nI x := by
  obtain ⟨h1, h2⟩ := h
  have h0 : ¬ v < 0 := fun q => h1 (Int32.lt_trans q (by decide))
  obtain ⟨j, hj, rfl⟩ := nI_of h0
  refine ⟨j, ?_, ?_, rfl⟩
  · rcases Nat.lt_or_ge j 48 with q | q
    · exact absurd (show nI j < (48 : Int32) from nI_lt (b := 48) q (by omega)) h1
    · exact q
  · rcases Nat.lt_or_ge 57 j with q | q
    · exact absurd (show (57 : Int32) < nI j from nI_lt (a := 57) q hj) h2
    · exact q
noncomputable def nvq (z : Nat) (w : Nat → Int32) (p : Nat) : Nat × Nat := by
  classical exact if dgq z w (p + 1) then (10 * dvq w p + dvq w (p + 1), 2) else (dvq w p, 1)
noncomputable def numq (z : Nat) (w : Nat → Int32) (lo hi : Nat) : Nat ⊕ Nat → (Nat ⊕ Nat) × Nat
  | .inl p => by classical exact if dgq z w p then (if lo ≤ (nvq z w p).1 ∧ (nvq z w p).1 ≤ hi then (.inl (p + (nvq z w p).2), (nvq z w p).1) else (.inr p, 0)) else (.inr p, 0)
  | .inr f => (.inr f, 0)
theorem exq_y {z p : Nat} {w : Nat → Int32} {ch : Int32} (h : p < z ∧ w p = ch) : exq z w ch (.inl p) = .inl (p + 1) := if_pos h
theorem exq_n {z p : Nat} {w : Nat → Int32} {ch : Int32} (h : ¬ (p < z ∧ w p = ch)) : exq z w ch (.inl p) = .inr p := if_neg h
theorem numq_b {z p lo hi : Nat} {w : Nat → Int32} (h : ¬ dgq z w p) : numq z w lo hi (.inl p) = (.inr p, 0) := if_neg h
theorem numq_o {z p lo hi v l : Nat} {w : Nat → Int32} (h : dgq z w p) (e : nvq z w p = (v, l)) (h2 : ¬ (lo ≤ v ∧ v ≤ hi)) : numq z w lo hi (.inl p) = (.inr p, 0) := by
  have h3 : ¬ (lo ≤ (nvq z w p).1 ∧ (nvq z w p).1 ≤ hi) := by rw [e]; exact h2
  exact (if_pos h).trans (if_neg h3)
theorem numq_i {z p lo hi v l : Nat} {w : Nat → Int32} (h : dgq z w p) (e : nvq z w p = (v, l)) (h2 : lo ≤ v ∧ v ≤ hi) : numq z w lo hi (.inl p) = (.inl (p + l), v) := by
  have h3 : lo ≤ (nvq z w p).1 ∧ (nvq z w p).1 ≤ hi := by rw [e]; exact h2
  refine (if_pos h).trans ((if_pos h3).trans ?_)
  rw [e]
theorem nvq_2 {z p : Nat} {w : Nat → Int32} (h : dgq z w (p + 1)) : nvq z w p = (10 * dvq w p + dvq w (p + 1), 2) := if_pos h
theorem nvq_1 {z p : Nat} {w : Nat → Int32} (h : ¬ dgq z w (p + 1)) : nvq z w p = (dvq w p, 1) := if_neg h
/-- the class's side -/
def CQ (z : Nat) (s : SC) : Nat ⊕ Nat → Prop
  | .inl p => p ≤ z ∧ gi s 23 = nI p ∧ gi s 24 = -1
  | .inr f => f ≤ z ∧ gi s 24 = nI f
def CSt (j z : Nat) (w : Nat → Int32) (s : SC) : Prop := gt s = j + 1 ∧ j < 8 ∧ z ≤ 160 ∧ ga s 19 j = nI z ∧ ∀ i, i < z → (gl s j i).toInt32 = w i
def FrS (s s' : SC) : Prop := (∀ k, k ≠ 23 → k ≠ 24 → gi s' k = gi s k) ∧ (∀ a, ga s' a = ga s a) ∧ (∀ j, gl s' j = gl s j) ∧ gt s' = gt s
theorem FrS.rf (s : SC) : FrS s s := ⟨fun _ _ _ => rfl, fun _ => rfl, fun _ => rfl, rfl⟩
theorem FrS.tr {a b c : SC} (h : FrS a b) (h2 : FrS b c) : FrS a c := ⟨fun k p q => (h2.1 k p q).trans (h.1 k p q), fun a => (h2.2.1 a).trans (h.2.1 a), fun j => (h2.2.2.1 j).trans (h.2.2.1 j), h2.2.2.2.trans h.2.2.2⟩
theorem FrS.i {s : SC} {k : Nat} (v : Int32) (hk : k = 23 ∨ k = 24) : FrS s (si s k v) := by
  refine ⟨fun q h1 h2 => ?_, fun _ => rfl, fun _ => rfl, rfl⟩
  rw [gi_si, if_neg (by omega)]
theorem CSt.same {j z : Nat} {w : Nat → Int32} {s s' : SC} (h : CSt j z w s) (e : FrS s s') : CSt j z w s' := by
  unfold CSt at *
  rw [e.2.2.2, e.2.1, e.2.2.1]; exact h
theorem peek_C {j z p : Nat} {w : Nat → Int32} {s : SC} (h : CSt j z w s) (h23 : gi s 23 = nI p) (hp : p ≤ z) : f_X9_peek s = some (if p < z then w p else -1) := by
  obtain ⟨h1, h2, h3, h4, h5⟩ := h
  unfold f_X9_peek
  rw [h1, if_neg (by omega)]
  simp only [dt, if_pos h2, h4, h23]
  by_cases q : p < z
  · rw [if_neg (nI_ge q (by omega)), if_neg (show ¬ (160 : Int32) ≤ nI p from nI_ge (b := 160) (by omega) (by omega)), ld_n p rfl (by omega) (by omega), h5 p q, if_pos q]
  · rw [if_pos (nI_le (by omega) (by omega)), if_neg q]
theorem fail_C {z p : Nat} {s : SC} {q : Nat ⊕ Nat} (hq : CQ z s q) (hz : z ≤ 160) (hp : p ≤ z) : ∃ s', f_X9_fail s (nI p) = some s' ∧ CQ z s' (fpq p q) ∧ FrS s s' := by
  unfold f_X9_fail
  cases q with
  | inl p' =>
    rw [if_pos hq.2.2, lt_e]
    exact ⟨_, rfl, ⟨hp, rfl⟩, FrS.i _ (Or.inr rfl)⟩
  | inr f =>
    have hq2 := hq
    obtain ⟨h1, h2⟩ := hq2
    rw [h2, if_neg (nI_nm1 (by omega))]
    exact ⟨_, rfl, hq, FrS.rf s⟩
theorem expect_C {j z : Nat} {w : Nat → Int32} {s : SC} {q : Nat ⊕ Nat} {ch : Int32} (h : CSt j z w s) (hq : CQ z s q) (hc : ch ≠ -1) : ∃ s', f_X9_expect s ch = some s' ∧ CQ z s' (exq z w ch q) ∧ FrS s s' := by
  have hz := h.2.2.1
  unfold f_X9_expect
  cases q with
  | inl p =>
    have hq2 := hq
    obtain ⟨h1, h2, h3⟩ := hq2
    rw [if_pos h3, peek_C h h2 h1, bd_e]
    by_cases q : p < z ∧ w p = ch
    · rw [if_pos q.1, if_pos q.2, lt_e, h2, nI_p1]
      refine ⟨_, rfl, ?_, FrS.i _ (Or.inl rfl)⟩
      rw [exq_y q]
      exact ⟨by omega, rfl, h3⟩
    · have : ¬ (if p < z then w p else -1) = ch := by
        by_cases q2 : p < z
        · rw [if_pos q2]; exact fun e => q ⟨q2, e⟩
        · rw [if_neg q2]; exact fun e => hc e.symm
      rw [if_neg this, h2]
      obtain ⟨s', e1, e2, e3⟩ := fail_C hq hz h1
      rw [e1, bd_e]
      refine ⟨s', rfl, ?_, e3⟩
      rw [exq_n q]; exact e2
  | inr f =>
    have hq2 := hq
    obtain ⟨h1, h2⟩ := hq2
    rw [h2, if_neg (nI_nm1 (by omega))]
    exact ⟨s, rfl, by show CQ z s (.inr f); exact hq, FrS.rf s⟩
theorem isDg_C (v : Int32) : (dgt v ∧ f_X9_isDigit v = 1) ∨ (¬ dgt v ∧ f_X9_isDigit v = 0) := by
  unfold f_X9_isDigit dgt
  by_cases h1 : v < 48
  · rw [if_pos h1]; exact Or.inr ⟨fun h => h.1 h1, rfl⟩
  · rw [if_neg h1]
    by_cases h2 : 57 < v
    · rw [if_pos h2]; exact Or.inr ⟨fun h => h.2 h2, rfl⟩
    · rw [if_neg h2]; exact Or.inl ⟨⟨h1, h2⟩, rfl⟩
theorem dg_m1 : ¬ dgt (-1) := fun h => h.1 (by decide)
theorem dvq_n {w : Nat → Int32} {p : Nat} (h : dgt (w p)) : w p - 48 = nI (dvq w p) ∧ dvq w p ≤ 9 ∧ w p = nI (dvq w p + 48) := by
  obtain ⟨x, h1, h2, e⟩ := dgt_n h
  unfold dvq
  rw [e, nI_clamp (by omega)]
  exact ⟨pk_sub (a := x) (b := 48) h1, by omega, by rw [show x - 48 + 48 = x by omega]⟩
theorem number_C {j z lo hi : Nat} {w : Nat → Int32} {s : SC} {q : Nat ⊕ Nat} (h : CSt j z w s) (hq : CQ z s q) (hh : hi ≤ 99) (hlo : lo ≤ 99) :
    ∃ s' v, f_X9_readNumber s (nI lo) (nI hi) = some (v, s') ∧ CQ z s' (numq z w lo hi q).1 ∧ FrS s s' ∧ ∀ p', (numq z w lo hi q).1 = .inl p' → v = nI (numq z w lo hi q).2 := by
  have hz := h.2.2.1
  unfold f_X9_readNumber
  cases q with
  | inr f =>
    have hq2 := hq
    obtain ⟨h1, h2⟩ := hq2
    rw [h2, if_neg (nI_nm1 (by omega))]
    exact ⟨s, 0, rfl, hq, FrS.rf s, fun p' e => by cases e⟩
  | inl p =>
    have hq2 := hq
    obtain ⟨h1, h2, h3⟩ := hq2
    rw [if_pos h3, lt_e, peek_C h h2 h1, bd_e]
    by_cases q : dgq z w p
    · have hlt := q.1
      obtain ⟨d1, d2, d3⟩ := dvq_n q.2
      rw [if_pos hlt]
      rcases isDg_C (w p) with ⟨_, e⟩ | ⟨e, _⟩
      rotate_left
      · exact absurd q.2 e
      rw [e, if_neg one_ne, bd_e, lt_e, lt_e, d1, h2, nI_p1]
      have f1 : FrS s (si s 23 (nI (p + 1))) := FrS.i _ (Or.inl rfl)
      have hs1 := h.same f1
      rw [peek_C hs1 (p := p + 1) rfl (by omega), bd_e]
      simp only [jn_e]
      -- the end, at value v and place p2
      have fin : ∀ (s2 : SC) (v p2 : Nat), FrS s s2 → gi s2 23 = nI p2 → gi s2 24 = -1 → p2 ≤ z → v ≤ 99 → nvq z w p = (v, p2 - p) → p ≤ p2 →
          ∃ s' v', (if nI v < nI lo then bd (f_X9_fail s2 (nI p)) (fun σ14 => some ((0 : Int32), σ14)) else if nI v ≤ nI hi then some (nI v, s2) else bd (f_X9_fail s2 (nI p)) (fun σ16 => some (0, σ16))) = some (v', s') ∧ CQ z s' (numq z w lo hi (.inl p)).1 ∧ FrS s s' ∧ ∀ p', (numq z w lo hi (.inl p)).1 = .inl p' → v' = nI (numq z w lo hi (.inl p)).2 := by
        intro s2 v p2 g1 g2 g3 g4 g5 g6 g7
        have hq3 : CQ z s2 (.inl p2) := ⟨g4, g2, g3⟩
        obtain ⟨s', k1, k2, k3⟩ := fail_C hq3 hz h1
        by_cases w1 : v < lo
        · rw [if_pos (nI_lt w1 (by omega)), k1, bd_e, numq_o q g6 (fun z => by have := z.1; omega)]
          exact ⟨s', 0, rfl, k2, g1.tr k3, fun p' e => by cases e⟩
        · rw [if_neg (nI_nlt (by omega) (by omega))]
          by_cases w2 : v ≤ hi
          · rw [if_pos (nI_le w2 (by omega)), numq_i q g6 ⟨by omega, w2⟩]
            refine ⟨s2, nI v, rfl, ?_, g1, fun p' _ => rfl⟩
            show CQ z s2 (.inl (p + (p2 - p)))
            rw [show p + (p2 - p) = p2 by omega]; exact hq3
          · rw [if_neg (nI_ge (by omega) (by omega)), k1, bd_e, numq_o q g6 (fun z => by have := z.2; omega)]
            exact ⟨s', 0, rfl, k2, g1.tr k3, fun p' e => by cases e⟩
      by_cases q2 : dgq z w (p + 1)
      · obtain ⟨e1, e2, e3⟩ := dvq_n q2.2
        have hlt2 := q2.1
        rw [if_pos hlt2]
        rcases isDg_C (w (p + 1)) with ⟨_, e⟩ | ⟨e, _⟩
        rotate_left
        · exact absurd q2.2 e
        rw [e, if_neg one_ne, bd_e]
        simp only [lt_e]
        have ev : nI (dvq w p) * 10 + w (p + 1) - 48 = nI (10 * dvq w p + dvq w (p + 1)) := by
          rw [e3, show (10 : Int32) = nI 10 from rfl, pk_mul, nI_add, show (48 : Int32) = nI 48 from rfl, pk_sub (by omega)]
          exact congrArg nI (by omega)
        rw [ev, show gi (si s 23 (nI (p + 1))) 23 = nI (p + 1) from rfl, nI_p1]
        exact fin _ _ (p + 2) (f1.tr (FrS.i _ (Or.inl rfl))) rfl h3 (by omega) (by omega) (by rw [nvq_2 q2, show p + 2 - p = 2 by omega]) (by omega)
      · have : f_X9_isDigit (if p + 1 < z then w (p + 1) else -1) = 0 := by
          by_cases q3 : p + 1 < z
          · rw [if_pos q3]
            rcases isDg_C (w (p + 1)) with ⟨e, _⟩ | ⟨_, e⟩
            · exact absurd ⟨q3, e⟩ q2
            · exact e
          · rw [if_neg q3]; decide
        rw [this, if_pos rfl]
        exact fin _ _ (p + 1) f1 rfl h3 (by omega) (by omega) (by rw [nvq_1 q2, show p + 1 - p = 1 by omega]) (by omega)
    · have e0 : f_X9_isDigit (if p < z then w p else -1) = 0 := by
        by_cases q3 : p < z
        · rw [if_pos q3]
          rcases isDg_C (w p) with ⟨e, _⟩ | ⟨_, e⟩
          · exact absurd ⟨q3, e⟩ q
          · exact e
        · rw [if_neg q3]; decide
      obtain ⟨s', k1, k2, k3⟩ := fail_C hq hz h1
      rw [e0, if_pos rfl, h2, k1, bd_e]
      rw [numq_b q]
      exact ⟨s', 0, rfl, k2, k3, fun p' e => by cases e⟩
/-- the reference's side -/
def MQr (z : Nat) (t : SC) : Nat ⊕ Nat → Prop
  | .inl p => p ≤ z ∧ gi t 3 = nI p ∧ gi t 4 = 0 ∧ gi t 5 = -1
  | .inr f => f ≤ z ∧ gi t 4 = 1 ∧ gi t 5 = nI f
def MStt (j z : Nat) (w : Nat → Int32) (t : SC) : Prop := gi t 2 = nI j ∧ j < 8 ∧ z ≤ 160 ∧ ga t 4 j = nI z ∧ ∀ i, i < z → (gl t 0 (160 * j + i)).toInt32 = w i
def FrT (s s' : SC) : Prop := (∀ k, k ≠ 3 → k ≠ 4 → k ≠ 5 → gi s' k = gi s k) ∧ (∀ a, ga s' a = ga s a) ∧ (∀ j, gl s' j = gl s j)
theorem FrT.rf (s : SC) : FrT s s := ⟨fun _ _ _ _ => rfl, fun _ => rfl, fun _ => rfl⟩
theorem FrT.tr {a b c : SC} (h : FrT a b) (h2 : FrT b c) : FrT a c := ⟨fun k p q r => (h2.1 k p q r).trans (h.1 k p q r), fun a => (h2.2.1 a).trans (h.2.1 a), fun j => (h2.2.2 j).trans (h.2.2 j)⟩
theorem FrT.i {s : SC} {k : Nat} (v : Int32) (hk : k = 3 ∨ k = 4 ∨ k = 5) : FrT s (si s k v) := by
  refine ⟨fun q h1 h2 h3 => ?_, fun _ => rfl, fun _ => rfl⟩
  rw [gi_si, if_neg (by omega)]
theorem MStt.same {j z : Nat} {w : Nat → Int32} {s s' : SC} (h : MStt j z w s) (e : FrT s s') : MStt j z w s' := by
  unfold MStt at *
  rw [e.1 2 (by omega) (by omega) (by omega), e.2.1, e.2.2]; exact h
theorem here_M {j z p : Nat} {w : Nat → Int32} {t : SC} (h : MStt j z w t) (h3 : gi t 3 = nI p) (hp : p < z) : f_X12_here t = some (w p) := by
  obtain ⟨g1, g2, g3, g4, g5⟩ := h
  unfold f_X12_here
  rw [g1, ld_n j rfl g2 (by omega), g4, h3, if_neg (nI_ge hp (by omega)), ix_160, ld_n (160 * j + p) rfl (by omega) (by omega), g5 p hp]
theorem fails_M {z p : Nat} {t : SC} {q : Nat ⊕ Nat} (hq : MQr z t q) (hp : p ≤ z) : ∃ t', f_X12_fails t (nI p) = some t' ∧ MQr z t' (fpq p q) ∧ FrT t t' := by
  unfold f_X12_fails
  simp only [jn_e, lt_e]
  cases q with
  | inl p' =>
    obtain ⟨h1, h2, h3, h4⟩ := hq
    rw [if_pos h3]
    exact ⟨_, rfl, ⟨hp, rfl, rfl⟩, (FrT.i _ (Or.inr (Or.inr rfl))).tr (FrT.i _ (Or.inr (Or.inl rfl)))⟩
  | inr f =>
    obtain ⟨h1, h2, h3⟩ := hq
    rw [h2, if_neg one_ne]
    exact ⟨_, rfl, ⟨h1, rfl, h3⟩, (FrT.i _ (Or.inr (Or.inr rfl))).tr (FrT.i _ (Or.inr (Or.inl rfl)))⟩
theorem must_M {j z : Nat} {w : Nat → Int32} {t : SC} {q : Nat ⊕ Nat} {ch : Int32} (h : MStt j z w t) (hq : MQr z t q) : ∃ t', f_X12_must t ch = some t' ∧ MQr z t' (exq z w ch q) ∧ FrT t t' := by
  have hz := h.2.2.1
  unfold f_X12_must
  cases q with
  | inl p =>
    have hq2 := hq
    obtain ⟨h1, h2, h3, h4⟩ := hq2
    obtain ⟨t', e1, e2, e3⟩ := fails_M hq h1
    rw [if_pos h3, h.1, ld_n j rfl h.2.1 (by omega), h.2.2.2.1, h2]
    by_cases q : p < z
    · rw [if_neg (nI_ge q (by omega)), here_M h h2 q, bd_e]
      by_cases q2 : w p = ch
      · rw [if_pos q2, lt_e, nI_p1]
        refine ⟨_, rfl, ?_, FrT.i _ (Or.inl rfl)⟩
        rw [exq_y ⟨q, q2⟩]
        exact ⟨by omega, rfl, h3, h4⟩
      · rw [if_neg q2, e1, bd_e]
        refine ⟨t', rfl, ?_, e3⟩
        rw [exq_n (fun z => q2 z.2)]; exact e2
    · rw [if_pos (nI_le (by omega) (by omega)), e1, bd_e]
      refine ⟨t', rfl, ?_, e3⟩
      rw [exq_n (fun z => q z.1)]; exact e2
  | inr f =>
    obtain ⟨h1, h2, h3⟩ := hq
    rw [h2, if_neg one_ne]
    exact ⟨t, rfl, ⟨h1, h2, h3⟩, FrT.rf t⟩
theorem in_dgt (v : Int32) : (dgt v ∧ f_X12_in v 48 57 = 1) ∨ (¬ dgt v ∧ f_X12_in v 48 57 = 0) := isDg_C v
theorem isDg_M {j z p : Nat} {w : Nat → Int32} {t : SC} (h : MStt j z w t) (h3 : gi t 3 = nI p) (hp : p ≤ z) : (dgq z w p ∧ f_X12_isDigit t = some 1) ∨ (¬ dgq z w p ∧ f_X12_isDigit t = some 0) := by
  have hz := h.2.2.1
  unfold f_X12_isDigit
  rw [h.1, ld_n j rfl h.2.1 (by omega), h.2.2.2.1, h3]
  by_cases q : p < z
  · rw [if_neg (nI_ge q (by omega)), here_M h h3 q, bd_e]
    rcases in_dgt (w p) with ⟨e, e2⟩ | ⟨e, e2⟩
    · rw [e2, if_neg one_ne]; exact Or.inl ⟨⟨q, e⟩, rfl⟩
    · rw [e2, if_pos rfl]; exact Or.inr ⟨fun z => e z.2, rfl⟩
  · rw [if_pos (nI_le (by omega) (by omega))]
    exact Or.inr ⟨fun z => q z.1, rfl⟩
theorem number_M {j z lo hi : Nat} {w : Nat → Int32} {t : SC} {q : Nat ⊕ Nat} (h : MStt j z w t) (hq : MQr z t q) (hh : hi ≤ 99) (hlo : lo ≤ 99) :
    ∃ t' v, f_X12_number t (nI lo) (nI hi) = some (v, t') ∧ MQr z t' (numq z w lo hi q).1 ∧ FrT t t' ∧ ∀ p', (numq z w lo hi q).1 = .inl p' → v = nI (numq z w lo hi q).2 := by
  have hz := h.2.2.1
  unfold f_X12_number
  cases q with
  | inr f =>
    have hq2 := hq
    obtain ⟨h1, h2, h3⟩ := hq2
    rw [h2, if_neg one_ne]
    unfold f_X12_fails
    simp only [jn_e, lt_e]
    rw [h2, if_neg one_ne, bd_e]
    exact ⟨_, nI lo, rfl, ⟨h1, rfl, h3⟩, (FrT.i _ (Or.inr (Or.inr rfl))).tr (FrT.i _ (Or.inr (Or.inl rfl))), fun p' e => by cases e⟩
  | inl p =>
    have hq2 := hq
    obtain ⟨h1, h2, h3, h4⟩ := hq2
    rw [if_pos h3]
    rcases isDg_M h h2 h1 with ⟨q, e⟩ | ⟨q, e⟩
    · have hlt := q.1
      obtain ⟨d1, d2, d3⟩ := dvq_n q.2
      rw [e, bd_e, if_neg one_ne, lt_e, here_M h h2 hlt, bd_e, lt_e, lt_e, d1, h2, nI_p1]
      have f1 : FrT t (si t 3 (nI (p + 1))) := FrT.i _ (Or.inl rfl)
      have hs1 := h.same f1
      simp only [jn_e]
      have fin : ∀ (s2 : SC) (v p2 : Nat), FrT t s2 → gi s2 3 = nI p2 → gi s2 4 = 0 → gi s2 5 = -1 → p2 ≤ z → v ≤ 99 → nvq z w p = (v, p2 - p) → p ≤ p2 →
          ∃ s' v', (if f_X12_in (nI v) (nI lo) (nI hi) = 0 then bd (f_X12_fails s2 (nI p)) (fun σ16 => some (nI lo, σ16)) else some (nI v, s2)) = some (v', s') ∧ MQr z s' (numq z w lo hi (.inl p)).1 ∧ FrT t s' ∧ ∀ p', (numq z w lo hi (.inl p)).1 = .inl p' → v' = nI (numq z w lo hi (.inl p)).2 := by
        intro s2 v p2 g1 g2 g3 g3' g4 g5 g6 g7
        have hq3 : MQr z s2 (.inl p2) := ⟨g4, g2, g3, g3'⟩
        obtain ⟨s', k1, k2, k3⟩ := fails_M hq3 h1
        unfold f_X12_in
        by_cases w1 : v < lo
        · rw [if_pos (nI_lt w1 (by omega)), if_pos rfl, k1, bd_e, numq_o q g6 (fun z => by have := z.1; omega)]
          exact ⟨s', _, rfl, k2, g1.tr k3, fun p' e => by cases e⟩
        · rw [if_neg (nI_nlt (by omega) (by omega))]
          by_cases w2 : v ≤ hi
          · rw [if_neg (nI_nlt w2 (by omega)), if_neg one_ne, numq_i q g6 ⟨by omega, w2⟩]
            refine ⟨s2, nI v, rfl, ?_, g1, fun p' _ => rfl⟩
            show MQr z s2 (.inl (p + (p2 - p)))
            rw [show p + (p2 - p) = p2 by omega]; exact hq3
          · rw [if_pos (nI_lt (by omega) (by omega)), if_pos rfl, k1, bd_e, numq_o q g6 (fun z => by have := z.2; omega)]
            exact ⟨s', _, rfl, k2, g1.tr k3, fun p' e => by cases e⟩
      rcases isDg_M hs1 (p := p + 1) rfl (by omega) with ⟨q2, e2⟩ | ⟨q2, e2⟩
      · obtain ⟨x1, x2, x3⟩ := dvq_n q2.2
        have hlt2 := q2.1
        rw [e2, bd_e, if_neg one_ne, here_M hs1 (p := p + 1) rfl hlt2, bd_e]
        simp only [lt_e]
        have ev : 10 * nI (dvq w p) + w (p + 1) - 48 = nI (10 * dvq w p + dvq w (p + 1)) := by
          rw [x3, show (10 : Int32) = nI 10 from rfl, pk_mul, nI_add, show (48 : Int32) = nI 48 from rfl, pk_sub (by omega)]
          exact congrArg nI (by omega)
        rw [ev, show gi (si t 3 (nI (p + 1))) 3 = nI (p + 1) from rfl, nI_p1]
        exact fin _ _ (p + 2) (f1.tr (FrT.i _ (Or.inl rfl))) rfl h3 h4 (by omega) (by omega) (by rw [nvq_2 q2, show p + 2 - p = 2 by omega]) (by omega)
      · rw [e2, bd_e, if_pos rfl]
        exact fin _ _ (p + 1) f1 rfl h3 h4 (by have := q.1; omega) (by omega) (by rw [nvq_1 q2, show p + 1 - p = 1 by omega]) (by omega)
    · obtain ⟨s', k1, k2, k3⟩ := fails_M hq h1
      rw [e, bd_e, if_pos rfl, h2, k1, bd_e]
      rw [numq_b q]
      exact ⟨s', _, rfl, k2, k3, fun p' e => by cases e⟩
