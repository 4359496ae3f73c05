/-! READ: one item, both sides -/
def MNq (q q' : Nat ⊕ Nat) : Prop := ∀ p', q' = .inl p' → ∃ p, q = .inl p ∧ p ≤ p'
theorem MNq.rf (q : Nat ⊕ Nat) : MNq q q := fun p' e => ⟨p', e, Nat.le_refl _⟩
theorem MNq.tr {a b c : Nat ⊕ Nat} (h : MNq a b) (h2 : MNq b c) : MNq a c := fun p' e => by
  obtain ⟨p1, e1, l1⟩ := h2 p' e
  obtain ⟨p2, e2, l2⟩ := h p1 e1
  exact ⟨p2, e2, Nat.le_trans l2 l1⟩
theorem MN_ex (z : Nat) (w : Nat → Int32) (ch : Int32) (q : Nat ⊕ Nat) : MNq q (exq z w ch q) := by
  intro p' e
  cases q with
  | inr f => cases e
  | inl p =>
    by_cases h : p < z ∧ w p = ch
    · rw [exq_y h] at e; cases e; exact ⟨p, rfl, by omega⟩
    · rw [exq_n h] at e; cases e
theorem MN_cp (full : Bool) (p0 : Nat) (q : Nat ⊕ Nat) : MNq q (cpq full p0 q) := by
  intro p' e
  unfold cpq at e
  split at e
  · cases q <;> cases e
  · exact ⟨p', e, Nat.le_refl _⟩
theorem MN_nu (z : Nat) (w : Nat → Int32) (lo hi : Nat) (q : Nat ⊕ Nat) : MNq q (numq z w lo hi q).1 := by
  intro p' e
  cases q with
  | inr f => cases e
  | inl p => exact ⟨p, rfl, by have := ((numq_r (z := z) (lo := lo) (hi := hi) (w := w) (.inl p)).2 p p' rfl e).1; omega⟩
theorem MN_fl (z : Nat) (w : Nat → Int32) : ∀ (d : Nat) (q : Nat ⊕ Nat) (v : Int32), MNq q (flq z w d q v).1
  | 0, q, v => MNq.rf q
  | d + 1, .inr e, v => MNq.rf _
  | d + 1, .inl p, v => by
    by_cases h : p < z ∧ w p = 44
    · rw [flq_y h]
      intro p' e
      obtain ⟨p1, e1, l1⟩ := MN_fl z w d _ _ p' e
      obtain ⟨p2, e2, l2⟩ := MN_nu z w 0 29 _ p1 e1
      cases e2
      exact ⟨p, rfl, by omega⟩
    · rw [flq_n h]; exact MNq.rf _
theorem MN_fc (z : Nat) (w : Nat → Int32) (q : Nat ⊕ Nat) : MNq q (fcq z w q).1 := by
  cases q with
  | inr f => exact MNq.rf _
  | inl p =>
    by_cases h : dgq z w p
    · rw [fcq_y h]; exact (MN_nu z w 0 29 _).tr (MN_fl z w _ _ _)
    · rw [fcq_n h]; exact MNq.rf _
theorem MN_wd (z : Nat) (w : Nat → Int32) (j : Nat) (q : Nat ⊕ Nat) : MNq q (wdq z w j q) := by
  unfold wdq
  exact fo_inv (fun _ q' => MNq q q') (MNq.rf q) (fun i q' _ h => h.tr (MN_ex z w _ q'))
def a1q (z : Nat) (w : Nat → Int32) (full : Bool) (p : Nat) : Nat ⊕ Nat := exq z w 32 (cpq full p (wdq z w 3 (.inl p)))
noncomputable def a2q (z : Nat) (w : Nat → Int32) (full : Bool) (p : Nat) : (Nat ⊕ Nat) × Int32 := fcq z w (a1q z w full p)
noncomputable def a3q (z : Nat) (w : Nat → Int32) (full : Bool) (p : Nat) : (Nat ⊕ Nat) × Int32 := fcq z w (exq z w 43 (a2q z w full p).1)
noncomputable def a4q (z : Nat) (w : Nat → Int32) (full : Bool) (p : Nat) : (Nat ⊕ Nat) × Int32 := fcq z w (exq z w 45 (a3q z w full p).1)
noncomputable def a5q (z : Nat) (w : Nat → Int32) (full : Bool) (p : Nat) : (Nat ⊕ Nat) × Nat := numq z w 1 99 (exq z w 36 (a4q z w full p).1)
noncomputable def stq (z : Nat) (w : Nat → Int32) (j p : Nat) : (Nat ⊕ Nat) × Int32 := fcq z w (exq z w 32 (wdq z w j (.inl p)))
theorem MN_st (z : Nat) (w : Nat → Int32) (j p : Nat) : MNq (.inl p) (stq z w j p).1 := ((MN_wd z w j _).tr (MN_ex z w 32 _)).tr (MN_fc z w _)
/-- where an act has come to its end, all of it stood -/
theorem act_in {z p p' : Nat} {w : Nat → Int32} {full : Bool} (e : (a5q z w full p).1 = .inl p') : p ≤ p' ∧ (∃ x, (a4q z w full p).1 = .inl x) ∧ (∃ x, (a3q z w full p).1 = .inl x) ∧ (∃ x, (a2q z w full p).1 = .inl x) ∧ (∃ x, a1q z w full p = .inl x) ∧ full = false ∧ 1 ≤ (a5q z w full p).2 ∧ (a5q z w full p).2 ≤ 99 := by
  have hr := numq_r (z := z) (lo := 1) (hi := 99) (w := w) (exq z w 36 (a4q z w full p).1)
  obtain ⟨x5, e5, l5⟩ := MN_nu z w 1 99 _ p' e
  obtain ⟨x4, e4, l4⟩ := MN_ex z w 36 _ x5 e5
  obtain ⟨x3, e3, l3⟩ := ((MN_ex z w 45 (a3q z w full p).1).tr (MN_fc z w _)) x4 e4
  obtain ⟨x2, e2, l2⟩ := ((MN_ex z w 43 (a2q z w full p).1).tr (MN_fc z w _)) x3 e3
  obtain ⟨x1, e1, l1⟩ := MN_fc z w (a1q z w full p) x2 e2
  obtain ⟨x0, e0, l0⟩ := (((MN_wd z w 3 (.inl p)).tr (MN_cp full p _)).tr (MN_ex z w 32 _)) x1 e1
  cases e0
  refine ⟨by omega, ⟨x4, e4⟩, ⟨x3, e3⟩, ⟨x2, e2⟩, ⟨x1, e1⟩, ?_, (hr.2 x5 p' e5 e).2, hr.1⟩
  cases full with
  | false => rfl
  | true =>
    exfalso
    obtain ⟨y, ey, _⟩ := MN_ex z w 32 _ x1 e1
    unfold cpq at ey
    rw [if_pos rfl] at ey
    cases hw : wdq z w 3 (.inl p) <;> rw [hw] at ey <;> cases ey
/-- the class: an act -/
theorem act_C {n j z p c a : Nat} {w : Nat → Int32} {s : SC} {full : Bool} (hn : 1000000 ≤ n) (h : CSt j z w s) (hq : CQ z s (.inl p)) (h6 : gi s 6 = nI c) (h26 : gi s 26 = nI a) (h24 : c + a ≤ 24) (hf : full = true ↔ c + a = 24) :
    ∃ s1, FrS s s1 ∧ CQ z s1 (a5q z w full p).1 ∧ ((∃ f, (a5q z w full p).1 = .inr f ∧ f_X9_readAct n s = some s1) ∨
      (∃ p', (a5q z w full p).1 = .inl p' ∧ f_X9_readAct n s = some (si (wrC s1 (c + a) (a2q z w full p).2 (a3q z w full p).2 (a4q z w full p).2 (nI (a5q z w full p).2)) 26 (nI (a + 1))))) := by
  have hz := h.2.2.1
  have hp := hq.1
  unfold f_X9_readAct
  rw [lt_e, hq.2.1]
  obtain ⟨s1, e1, k1, f1⟩ := word_C hn h hq (j := 3) (by omega)
  rw [e1, bd_e]
  simp only [jn_e]
  have hcap : ∃ s2, FrS s s2 ∧ CQ z s2 (cpq full p (wdq z w 3 (.inl p))) ∧ ∀ {β : Type} (J : SC → Option β), (if gi s1 6 + gi s1 26 < 24 then J s1 else bd (f_X9_fail s1 (nI p)) (fun σ30 => J σ30)) = J s2 := by
    rw [f1.1 6 (by omega) (by omega), f1.1 26 (by omega) (by omega), h6, h26, nI_add]
    unfold cpq
    by_cases q : c + a = 24
    · rw [if_pos (hf.mpr q)]
      obtain ⟨s2, e2, k2, f2⟩ := fail_C k1 hz hp
      refine ⟨s2, f1.tr f2, k2, fun J => ?_⟩
      rw [if_neg (show ¬ nI (c + a) < (24 : Int32) from nI_nlt (b := 24) (by omega) (by omega)), e2, bd_e]
    · rw [if_neg (fun z => q (hf.mp z))]
      exact ⟨s1, f1, k1, fun J => if_pos (show nI (c + a) < (24 : Int32) from nI_lt (b := 24) (by omega) (by omega))⟩
  obtain ⟨s2, f2, k2, ej⟩ := hcap
  rw [ej (fun σ5 => bd (f_X9_expect σ5 32) _)]
  obtain ⟨s3, e3, k3, f3⟩ := expect_C (ch := 32) (h.same f2) k2 (by decide)
  have f3' := f2.tr f3
  rw [e3, bd_e]
  obtain ⟨s4, v4, e4, k4, f4, g4⟩ := facts_C hn (h.same f3') k3
  have f4' := f3'.tr f4
  rw [e4, bd2_e]
  obtain ⟨s5, e5, k5, f5⟩ := expect_C (ch := 43) (h.same f4') k4 (by decide)
  have f5' := f4'.tr f5
  rw [e5, bd_e]
  obtain ⟨s6, v6, e6, k6, f6, g6⟩ := facts_C hn (h.same f5') k5
  have f6' := f5'.tr f6
  rw [e6, bd2_e]
  obtain ⟨s7, e7, k7, f7⟩ := expect_C (ch := 45) (h.same f6') k6 (by decide)
  have f7' := f6'.tr f7
  rw [e7, bd_e]
  obtain ⟨s8, v8, e8, k8, f8, g8⟩ := facts_C hn (h.same f7') k7
  have f8' := f7'.tr f8
  rw [e8, bd2_e]
  obtain ⟨s9, e9, k9, f9⟩ := expect_C (ch := 36) (h.same f8') k8 (by decide)
  have f9' := f8'.tr f9
  rw [e9, bd_e]
  obtain ⟨s10, v10, e10, k10, f10, g10⟩ := number_C (lo := 1) (hi := 99) (h.same f9') k9 (by omega) (by omega)
  have f10' := f9'.tr f10
  have e10 : f_X9_readNumber s9 1 99 = some (v10, s10) := e10
  rw [e10, bd2_e]
  have k10 : CQ z s10 (a5q z w full p).1 := k10
  refine ⟨s10, f10', k10, ?_⟩
  cases hr : (a5q z w full p).1 with
  | inr f =>
    rw [hr] at k10
    left
    refine ⟨f, rfl, ?_⟩
    rw [if_neg (show ¬ gi s10 24 = -1 by rw [k10.2]; exact nI_nm1 (by have := k10.1; omega))]
  | inl p' =>
    rw [hr] at k10
    right
    obtain ⟨_, ⟨x4, y4⟩, ⟨x3, y3⟩, ⟨x2, y2⟩, _, hfl, _, _⟩ := act_in hr
    have hlt : c + a < 24 := by
      rcases Nat.lt_or_ge (c + a) 24 with l | l
      · exact l
      · have := hf.mpr (by omega); rw [hfl] at this; cases this
    have r4 : v4 = (a2q z w full p).2 := g4 x2 y2
    have r6 : v6 = (a3q z w full p).2 := g6 x3 y3
    have r8 : v8 = (a4q z w full p).2 := g8 x4 y4
    have r10 : v10 = nI (a5q z w full p).2 := g10 p' hr
    refine ⟨p', rfl, ?_⟩
    rw [if_pos k10.2.2, f10'.1 6 (by omega) (by omega), f10'.1 26 (by omega) (by omega), h6, h26, nI_add, write_C hlt, bd_e, lt_e, r4, r6, r8, r10, show gi (wrC s10 (c + a) (a2q z w full p).2 (a3q z w full p).2 (a4q z w full p).2 (nI (a5q z w full p).2)) 26 = gi s10 26 from rfl, f10'.1 26 (by omega) (by omega), h26, nI_p1]
theorem set_C {n j z p jw : Nat} {w : Nat → Int32} {s : SC} (hn : 1000000 ≤ n) (h : CSt j z w s) (hq : CQ z s (.inl p)) (hj : jw < 8) :
    ∃ s1 v, FrS s s1 ∧ CQ z s1 (stq z w jw p).1 ∧ f_X9_readSetItem n s jw = some (v, s1) ∧ ∀ p', (stq z w jw p).1 = .inl p' → v = (stq z w jw p).2 := by
  unfold f_X9_readSetItem
  obtain ⟨s1, e1, k1, f1⟩ := word_C hn h hq hj
  rw [e1, bd_e]
  obtain ⟨s3, e3, k3, f3⟩ := expect_C (ch := 32) (h.same f1) k1 (by decide)
  have f3' := f1.tr f3
  rw [e3, bd_e]
  obtain ⟨s4, v4, e4, k4, f4, g4⟩ := facts_C hn (h.same f3') k3
  rw [e4, bd2_e]
  exact ⟨s4, v4, f3'.tr f4, k4, rfl, g4⟩
/-- the reference: the word of a letter -/
theorem wordL_M {n j0 z p : Nat} {w : Nat → Int32} {t : SC} {u3 : Int32} {full : Bool} (hn : 1000000 ≤ n) (h : MStt j0 z w t) (hq : MQr z t (.inl p)) (hf : full = true ↔ (u3 = 97 ∧ ga t 0 172 + gi t 6 = 24)) :
    ∃ t', f_X12_word n t u3 = some t' ∧ MQr z t' (wrq z w full p (if u3 = 115 then 4 else if u3 = 103 then 5 else if u3 = 110 then 6 else 7) (.inl p)) ∧ FrT t t' := by
  unfold f_X12_word
  simp only [jn_e, lt_e]
  rw [hq.2.1]
  by_cases q1 : u3 = 115
  · rw [if_pos q1, if_pos q1]; exact word_M hn h hq (by omega) hq.1 hf
  · rw [if_neg q1, if_neg q1]
    by_cases q2 : u3 = 103
    · rw [if_pos q2, if_pos q2]; exact word_M hn h hq (by omega) hq.1 hf
    · rw [if_neg q2, if_neg q2]
      by_cases q3 : u3 = 110
      · rw [if_pos q3, if_pos q3]; exact word_M hn h hq (by omega) hq.1 hf
      · rw [if_neg q3, if_neg q3]; exact word_M hn h hq (by omega) hq.1 hf
/-- what stands behind the word of an item -/
def itB (n : Nat) (a1 u3 : Int32) (σ5 : SC) : Option SC := if (gi σ5 4) = 0 then bd2 (f_X12_set_ n σ5) (fun v8 σ7 => if u3 = 97 then bd (f_X12_must σ7 43) (fun σ10 => bd2 (f_X12_set_ n σ10) (fun v13 σ12 => bd (f_X12_must σ12 45) (fun σ15 => bd2 (f_X12_set_ n σ15) (fun v18 σ17 => bd (f_X12_must σ17 36) (fun σ20 => bd2 (f_X12_number σ20 1 99) (fun v23 σ22 => jn (fun (σ25 : SC) => if a1 = 0 then lt (si σ25 6 ((gi σ25 6) + 1)) (fun σ26 => some σ26) else lt (si σ25 6 ((gi σ25 6) + 0)) (fun σ27 => some σ27)) (fun J24 => if a1 = 0 then J24 σ22 else bd2 (f_X12_comes σ22 v8 v13 v18 v23 0 (-1) (-1)) (fun v30 σ29 => J24 σ29)))))))) else if a1 = 0 then some σ7 else if u3 = 115 then ck 173 168 (lt (sa σ7 0 (upd (ga σ7 0) (168 : Int32).toNatClampNeg v8)) (fun σ33 => some σ33)) else if u3 = 103 then ck 173 169 (lt (sa σ7 0 (upd (ga σ7 0) (169 : Int32).toNatClampNeg v8)) (fun σ32 => some σ32)) else ck 173 170 (lt (sa σ7 0 (upd (ga σ7 0) (170 : Int32).toNatClampNeg v8)) (fun σ31 => some σ31))) else some σ5
theorem item_e {n j z p : Nat} {w : Nat → Int32} {t : SC} (a1 : Int32) (h : MStt j z w t) (hq : MQr z t (.inl p)) : f_X12_item n t a1 = bd (f_X12_word n t (if p < z then w p else 0)) (fun σ5 => itB n a1 (if p < z then w p else 0) σ5) := by
  have hz := h.2.2.1
  have hp : p ≤ z := hq.1
  unfold f_X12_item
  rw [h.1, ld_n j rfl h.2.1 (by omega), h.2.2.2.1, hq.2.1]
  simp only [jn_e]
  by_cases q : p < z
  · rw [if_neg (nI_ge q (by omega)), here_M h hq.2.1 q, bd_e, if_pos q]; rfl
  · rw [if_pos (nI_le (by omega) (by omega)), if_neg q]; rfl
theorem actB_M {n j z p cc : Nat} {w : Nat → Int32} {t : SC} {full : Bool} (hn : 1000000 ≤ n) (h : MStt j z w t) (hq : MQr z t (a1q z w full p)) :
    (∃ t', itB n 0 97 t = some t' ∧ MQr z t' (a5q z w full p).1 ∧ (∀ k, k ≠ 3 → k ≠ 4 → k ≠ 5 → k ≠ 6 → gi t' k = gi t k) ∧ (∀ a, ga t' a = ga t a) ∧ (∀ j, gl t' j = gl t j) ∧ ∀ p', (a5q z w full p).1 = .inl p' → gi t' 6 = gi t 6 + 1) ∧
    (∀ p', (a5q z w full p).1 = .inl p' → cc < 24 → ga t 0 172 = nI cc → ∃ t', itB n 1 97 t = some t' ∧ MQr z t' (.inl p') ∧ (∀ k, k ≠ 3 → k ≠ 4 → k ≠ 5 → k ≠ 6 → gi t' k = gi t k) ∧ gi t' 6 = gi t 6 + 0 ∧ (∀ a, a ≠ 0 → ga t' a = ga t a) ∧ (∀ j, gl t' j = gl t j) ∧
      ga t' 0 = upM (ga t 0) cc (a2q z w full p).2 (a3q z w full p).2 (a4q z w full p).2 (nI (a5q z w full p).2) 0 (-1) (-1)) := by
  cases h1 : a1q z w full p with
  | inr f =>
    have e5 : a5q z w full p = (.inr f, 0) := by unfold a5q a4q a3q a2q; rw [h1]; rfl
    rw [e5]
    rw [h1] at hq
    have hq2 := hq
    obtain ⟨g1, g2, g3⟩ := hq2
    refine ⟨⟨t, ?_, hq, fun _ _ _ _ _ => rfl, fun _ => rfl, fun _ => rfl, fun p' e => by cases e⟩, fun p' e => by cases e⟩
    unfold itB
    rw [g2, if_neg one_ne]
  | inl p1 =>
    have hq' : MQr z t (.inl p1) := by rw [h1] at hq; exact hq
    obtain ⟨t2, v2, e2, k2, f2, g2⟩ := facts_M hn h hq
    obtain ⟨t3, e3, k3, f3⟩ := must_M (ch := 43) (h.same f2) k2
    have f3' := f2.tr f3
    obtain ⟨t4, v4, e4, k4, f4, g4⟩ := facts_M hn (h.same f3') k3
    have f4' := f3'.tr f4
    obtain ⟨t5, e5, k5, f5⟩ := must_M (ch := 45) (h.same f4') k4
    have f5' := f4'.tr f5
    obtain ⟨t6, v6, e6, k6, f6, g6⟩ := facts_M hn (h.same f5') k5
    have f6' := f5'.tr f6
    obtain ⟨t7, e7, k7, f7⟩ := must_M (ch := 36) (h.same f6') k6
    have f7' := f6'.tr f7
    obtain ⟨t8, v8, e8, k8, f8, g8⟩ := number_M (lo := 1) (hi := 99) (h.same f7') k7 (by omega) (by omega)
    have f8' := f7'.tr f8
    have e8 : f_X12_number t7 1 99 = some (v8, t8) := e8
    have k8 : MQr z t8 (a5q z w full p).1 := k8
    have hb : ∀ a1 : Int32, itB n a1 97 t = jn (fun (σ25 : SC) => if a1 = 0 then lt (si σ25 6 ((gi σ25 6) + 1)) (fun σ26 => some σ26) else lt (si σ25 6 ((gi σ25 6) + 0)) (fun σ27 => some σ27)) (fun J24 => if a1 = 0 then J24 t8 else bd2 (f_X12_comes t8 v2 v4 v6 v8 0 (-1) (-1)) (fun v30 σ29 => J24 σ29)) := by
      intro a1
      unfold itB
      rw [if_pos hq'.2.2.1, e2, bd2_e, if_pos rfl, e3, bd_e, e4, bd2_e, e5, bd_e, e6, bd2_e, e7, bd_e, e8, bd2_e]
    have mq6 : ∀ (s : SC) (v : Int32) (q : Nat ⊕ Nat), MQr z s q → MQr z (si s 6 v) q := by
      intro s v q hq
      cases q with
      | inl p => exact hq
      | inr f => exact hq
    constructor
    · refine ⟨si t8 6 (gi t8 6 + 1), by rw [hb 0, jn_e, if_pos rfl]; rfl, mq6 _ _ _ k8, fun k a b c d => ?_, f8'.2.1, f8'.2.2, fun p' e => ?_⟩
      · rw [gi_si, if_neg d]; exact f8'.1 k a b c
      · show gi t8 6 + 1 = _
        rw [f8'.1 6 (by omega) (by omega) (by omega)]
    · intro p' hr hcc h172
      obtain ⟨_, ⟨x4, y4⟩, ⟨x3, y3⟩, ⟨x2, y2⟩, _, _, _, _⟩ := act_in hr
      have r2 : v2 = (a2q z w full p).2 := g2 x2 y2
      have r4 : v4 = (a3q z w full p).2 := g4 x3 y3
      have r6 : v6 = (a4q z w full p).2 := g6 x4 y4
      have r8 : v8 = nI (a5q z w full p).2 := g8 p' hr
      rw [hr] at k8
      obtain ⟨τ1, w1, w2, w3, w4, w5⟩ := comes_M hcc (τ := t8) (by rw [f8'.2.1 0]; exact h172) v2 v4 v6 v8 0 (-1) (-1)
      refine ⟨si τ1 6 (gi τ1 6 + 0), ?_, ?_, fun k a b c d => ?_, ?_, fun a ha => ?_, fun j => ?_, ?_⟩
      · rw [hb 1, jn_e, if_neg one_ne, w1, bd2_e]; exact if_neg one_ne
      · refine mq6 _ _ _ ?_
        obtain ⟨m1, m2, m3, m4⟩ := k8
        exact ⟨m1, by rw [w2]; exact m2, by rw [w2]; exact m3, by rw [w2]; exact m4⟩
      · rw [gi_si, if_neg d, w2]; exact f8'.1 k a b c
      · show gi τ1 6 + 0 = _
        rw [w2, f8'.1 6 (by omega) (by omega) (by omega)]
      · show ga τ1 a = _
        rw [w3 a ha, f8'.2.1 a]
      · show gl τ1 j = _
        rw [w4, f8'.2.2]
      · show ga τ1 0 = _
        rw [w5, f8'.2.1 0, r2, r4, r6, r8]
theorem setB_M {n j z jw p : Nat} {w : Nat → Int32} {t : SC} {u3 : Int32} (hn : 1000000 ≤ n) (h : MStt j z w t) (hq : MQr z t (exq z w 32 (wdq z w jw (.inl p)))) (hu : u3 ≠ 97) :
    (∃ t', itB n 0 u3 t = some t' ∧ MQr z t' (stq z w jw p).1 ∧ FrT t t') ∧
    (∀ p', (stq z w jw p).1 = .inl p' → ∃ t', itB n 1 u3 t = some (sa t' 0 (upd (ga t 0) (if u3 = 115 then 168 else if u3 = 103 then 169 else 170) (stq z w jw p).2)) ∧ MQr z t' (.inl p') ∧ FrT t t') := by
  cases h1 : exq z w 32 (wdq z w jw (.inl p)) with
  | inr f =>
    have e5 : stq z w jw p = (.inr f, 0) := by unfold stq; rw [h1]; rfl
    rw [e5]
    rw [h1] at hq
    have hq2 := hq
    obtain ⟨g1, g2, g3⟩ := hq2
    refine ⟨⟨t, ?_, hq, FrT.rf t⟩, fun p' e => by cases e⟩
    unfold itB
    rw [g2, if_neg one_ne]
  | inl p1 =>
    have hq' : MQr z t (.inl p1) := by rw [h1] at hq; exact hq
    obtain ⟨t2, v2, e2, k2, f2, g2⟩ := facts_M hn h hq
    have k2 : MQr z t2 (stq z w jw p).1 := k2
    constructor
    · refine ⟨t2, ?_, k2, f2⟩
      unfold itB
      rw [if_pos hq'.2.2.1, e2, bd2_e, if_neg hu, if_pos rfl]
    · intro p' hr
      have r2 : v2 = (stq z w jw p).2 := g2 p' hr
      rw [hr] at k2
      refine ⟨t2, ?_, k2, f2⟩
      unfold itB
      rw [if_pos hq'.2.2.1, e2, bd2_e, if_neg hu, if_neg one_ne, ck_n (i := 168) 168 rfl (by omega) (by omega), ck_n (i := 169) 169 rfl (by omega) (by omega), ck_n (i := 170) 170 rfl (by omega) (by omega), r2, f2.2.1 0]
      by_cases q1 : u3 = 115
      · rw [if_pos q1, if_pos q1]; rfl
      · rw [if_neg q1, if_neg q1]
        by_cases q2 : u3 = 103
        · rw [if_pos q2, if_pos q2]; rfl
        · rw [if_neg q2, if_neg q2]; rfl
