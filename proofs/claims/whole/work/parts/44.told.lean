/-! told plans: judge, behind -/
def RowOf (σ τ : SC) (j z : Nat) : Prop := z ≤ 160 ∧ f_X8_hasRow σ j = 1 ∧ ga σ 19 j = nI z ∧ ∀ i, i < z → gl τ 0 (160 * j + i) = gl σ j i
theorem told_ok {c : Nat} {σ τ : SC} (h : RelC c σ τ) (a1 a2 : Int32) :
    (∃ j z m, j < 8 ∧ a1 = nI j ∧ a2 = nI m ∧ m ≤ z ∧ RowOf σ τ j z ∧ f_X11_refusalOfTold σ a1 a2 = some 0 ∧ f_X12_wantedPlan τ a1 a2 = some (if m ≤ 100 then 0 else -6)) ∨
    (∃ k, k < 5 ∧ f_X11_refusalOfTold σ a1 a2 = some (-nI (k + 1)) ∧ f_X12_wantedPlan τ a1 a2 = some (-nI (k + 1))) := by
  unfold f_X11_refusalOfTold f_X12_wantedPlan
  rcases shelf_c a1 with ⟨j, hj, rfl, _, _⟩ | ⟨e1, e2⟩
  · rcases refusal_c hj h.1.1 (h.2.2.2.2.2.2.1 j hj) with ⟨_, _, e3, e4⟩ | ⟨_, e3, e4⟩ | ⟨⟨k, z, hk, hz, p1, p2, p3, p4, p5, p6⟩, e3, e4⟩
    · rw [e3, e4]; exact Or.inr ⟨2, by omega, rfl, rfl⟩
    · rw [e3, e4]; exact Or.inr ⟨1, by omega, rfl, rfl⟩
    · rw [e3, e4, bd_e, bd_e, if_pos rfl, if_pos rfl]
      by_cases q : 0 ≤ a2
      · rw [if_pos q, if_pos q, ld_n j rfl hj (by omega), ld_n j rfl hj (by omega), p3, p4]
        obtain ⟨m, hm, rfl⟩ := nI_of (Int32.not_lt.mpr q)
        by_cases q2 : m ≤ z
        · left
          refine ⟨j, z, m, hj, rfl, rfl, q2, ⟨hz, p6, p3, p5⟩, if_pos (nI_le q2 (by omega)), ?_⟩
          rw [if_pos (nI_le q2 (by omega))]
          by_cases q3 : m ≤ 100
          · rw [if_pos q3, if_pos (show nI m ≤ 100 from nI_le (b := 100) q3 (by omega))]
          · rw [if_neg q3, if_neg (show ¬ nI m ≤ 100 from nI_ge (a := 100) (by omega) (by omega))]
        · rw [if_neg (nI_ge (by omega) hm), if_neg (nI_ge (by omega) hm)]
          exact Or.inr ⟨4, by omega, rfl, rfl⟩
      · rw [if_neg q, if_neg q]; exact Or.inr ⟨3, by omega, rfl, rfl⟩
  · have e3 : f_X11_refusalOfRow σ a1 = some (-1) := by unfold f_X11_refusalOfRow; rw [e1, if_pos rfl]
    have e4 : f_X12_wanted τ a1 = some (-1) := by unfold f_X12_wanted; rw [e2, if_pos rfl]
    rw [e3, e4]; exact Or.inr ⟨0, by omega, rfl, rfl⟩
theorem neg_ne {k : Nat} (hk : k < 5) : ¬ -nI (k + 1) = 0 := by
  match k, hk with
  | 0, _ => decide
  | 1, _ => decide
  | 2, _ => decide
  | 3, _ => decide
  | 4, _ => decide
theorem neg_ne6 {k : Nat} (hk : k < 5) : ¬ -nI (k + 1) = -6 := by
  match k, hk with
  | 0, _ => decide
  | 1, _ => decide
  | 2, _ => decide
  | 3, _ => decide
  | 4, _ => decide
/-- what a row tells at i -/
theorem tell_C {σ τ : SC} {j z i : Nat} (h : RowOf σ τ j z) (hi : i < z) : f_X8_intAt σ j (nI i) = some (gl σ j i).toInt32 := by
  have hz := h.1
  unfold f_X8_intAt f_X8_longAt
  rcases elem_c (x := nI i) h.1 h.2.2.1 h.2.1 with ⟨i', _, e, f1, _⟩ | ⟨f1, f2⟩
  · rw [f1, if_neg one_ne, ld_n i rfl (by omega) (by omega)]; rfl
  · rw [in_1 (by omega) ⟨i, hi, rfl⟩] at f2
    exact absurd f2 one_ne
theorem tell_M {σ τ : SC} {j z i : Nat} (h : RowOf σ τ j z) (hj : j < 8) (hi : i < z) : f_X12_told τ (nI j) (nI i) = some (gl σ j i).toInt32 := by
  have hz := h.1
  unfold f_X12_told
  rw [ix_160, ld_n (160 * j + i) rfl (by omega) (by omega), h.2.2.2 i hi]
theorem follow_ok {c n j z m : Nat} {σ τ : SC} (hn : 1000000 ≤ n) (h : RelC c σ τ) (hj : j < 8) (hR : RowOf σ τ j z) (hm : m ≤ z) (hm2 : m ≤ 100) :
    ∃ s t, f_X10_follow n σ j (nI m) (gi σ 1) = some s ∧ f_X12_wrongOf n τ (nI j) (nI m) = some (gi s 30, t) ∧ SameC σ s ∧ SameM τ t ∧ (gi s 30 = -1 → gi s 31 = gi t 10 ∧ gi s 32 = gi t 11) ∧ (gi s 30 = -1 ∨ ∃ i, i < m ∧ gi s 30 = nI i) := by
  have h24 := h.1.1
  unfold f_X10_follow f_X12_wrongOf
  have hS : ∀ (s : SC) (k : Nat) (v : Int32), (k = 30 ∨ k = 31 ∨ k = 32) → SameC σ s → SameC σ (si s k v) := by
    intro s k v hk hs
    refine ⟨fun q hq => ?_, hs.2.1, hs.2.2⟩
    rw [gi_si, if_neg (by simp only [List.mem_cons, List.not_mem_nil, or_false] at hq; omega)]
    exact hs.1 q hq
  have hT : ∀ (t : SC) (k : Nat) (v : Int32), (k = 10 ∨ k = 11) → SameM τ t → SameM τ (si t k v) := by
    intro s k v hk hs
    refine ⟨fun q hq => ?_, hs.2.1, hs.2.2⟩
    rw [gi_si, if_neg (by simp only [List.mem_cons, List.not_mem_nil, or_false] at hq; omega)]
    exact hs.1 q hq
  simp only [lt_e]
  rw [ld_n (i := 168) 168 rfl (by omega) (by omega)]
  have key : ∀ (d f f2 i : Nat) (s t : SC), i + d = m → d < f → d < f2 → SameC σ s → SameM τ t → gi s 30 = -1 → gi s 31 = gi t 10 → gi s 32 = gi t 11 →
      ∃ s' t', LX10_follow_18 j (nI m) (fun σ16 => some σ16) f s (nI i) = some s' ∧ LX12_wrongOf_19 (nI j) (nI m) (fun σ16 => some ((-1), σ16)) f2 t (nI i) = some (gi s' 30, t') ∧ SameC σ s' ∧ SameM τ t' ∧ (gi s' 30 = -1 → gi s' 31 = gi t' 10 ∧ gi s' 32 = gi t' 11) ∧ (gi s' 30 = -1 ∨ ∃ i, i < m ∧ gi s' 30 = nI i) := by
    intro d
    induction d with
    | zero =>
      intro f f2 i s t hi hf hf2 hs ht h30 h31 h32
      obtain ⟨f, rfl⟩ : ∃ f', f = f' + 1 := ⟨f - 1, by omega⟩
      obtain ⟨f2, rfl⟩ : ∃ f', f2 = f' + 1 := ⟨f2 - 1, by omega⟩
      rw [LX10_follow_18, LX12_wrongOf_19, if_pos (nI_le (by omega) (by omega)), if_pos (nI_le (by omega) (by omega))]
      exact ⟨s, t, rfl, by rw [h30], hs, ht, fun _ => ⟨h31, h32⟩, Or.inl h30⟩
    | succ d ih =>
      intro f f2 i s t hi hf hf2 hs ht h30 h31 h32
      obtain ⟨f, rfl⟩ : ∃ f', f = f' + 1 := ⟨f - 1, by omega⟩
      obtain ⟨f2, rfl⟩ : ∃ f', f2 = f' + 1 := ⟨f2 - 1, by omega⟩
      have hr := (h.sameC hs).sameM ht
      have hRs : RowOf s t j z := by
        refine ⟨hR.1, ?_, by rw [hs.2.1 19 (by decide)]; exact hR.2.2.1, fun i hi => by rw [ht.2.2, hs.2.2, hR.2.2.2 i hi]⟩
        have := hR.2.1
        unfold f_X8_hasRow at this ⊢
        rw [hs.2.1 20 (by decide)]; exact this
      rw [LX10_follow_18, LX12_wrongOf_19, if_neg (nI_ge (by omega) (by omega)), if_neg (nI_ge (by omega) (by omega)), if_neg (show ¬ (100 : Int32) ≤ nI i from nI_ge (b := 100) (by omega) (by omega)), tell_C hRs (by omega), bd_e, tell_M hRs hj (by omega), bd_e]
      have bad : ∃ s' t', some (si s 30 (nI i)) = some s' ∧ some (nI i, t) = some (gi s' 30, t') ∧ SameC σ s' ∧ SameM τ t' ∧ (gi s' 30 = -1 → gi s' 31 = gi t' 10 ∧ gi s' 32 = gi t' 11) ∧ (gi s' 30 = -1 ∨ ∃ i, i < m ∧ gi s' 30 = nI i) :=
        ⟨si s 30 (nI i), t, rfl, rfl, hS s 30 _ (Or.inl rfl) hs, ht, fun e => absurd e (nI_nm1 (by omega)), Or.inr ⟨i, by omega, rfl⟩⟩
      generalize (gl s j i).toInt32 = v
      rcases Classical.em (inR v c) with ha | ha
      · rw [has_1 hr.1.2.1 h24 ha, isAct_1 hr.1.2.2.1 h24 ha, if_neg one_ne, bd_e, if_neg one_ne]
        obtain ⟨a, hac, rfl⟩ := ha
        have hta := hr.2.1 a hac
        rw [allowed_C (by omega), mayBe_M (by omega), bd_e, bd_e, hta.1, ← h31]
        by_cases q : sub (ga s 0 a) (gi s 31)
        · rw [if_pos q, if_neg one_ne, if_neg one_ne, after_C (by omega), behind_M (by omega), bd_e, bd_e, lt_e, lt_e, hta.2.1, hta.2.2.1, ldA (by omega)]
          rw [show ga (si t 10 (aft (ga s 2 a) (ga s 1 a) (gi s 31))) 0 = ga t 0 from rfl, ld72 (by omega), hta.2.2.2.1, lt_e, lt_e, lt_e, nI_p1]
          exact ih f f2 (i + 1) _ _ (by omega) (by omega) (by omega) (hS _ 32 _ (by omega) (hS _ 31 _ (by omega) hs)) (hT _ 11 _ (by omega) (hT _ 10 _ (by omega) ht)) h30 rfl (by show gi s 32 + _ = gi t 11 + _; rw [h32]; rfl)
        · rw [if_neg q, if_pos rfl, if_pos rfl]; exact bad
      · rw [has_0 hr.1.2.1 h24 ha, isAct_0 hr.1.2.2.1 h24 ha, if_pos rfl, bd_e, if_pos rfl]; exact bad
  exact key m n n 0 _ _ (by omega) (by omega) (by omega) (hS _ 32 _ (by omega) (hS _ 31 _ (by omega) (hS _ 30 _ (by omega) (SameC.rf σ)))) (hT _ 11 _ (by omega) (hT _ 10 _ (by omega) (SameM.rf τ))) rfl h.1.2.2.2.1 rfl
theorem ag_judge_ok {n : Nat} (hn : 1000000 ≤ n) : ag_judge n Rel := by
  rintro σ τ a1 a2 ⟨c, h⟩
  unfold f_X11_judge f_X12_judge
  rcases told_ok h a1 a2 with ⟨j, z, m, hj, rfl, rfl, hm, hR, e1, e2⟩ | ⟨k, hk, e1, e2⟩
  · rw [e1, e2, bd_e, bd_e, if_pos rfl]
    have hz := hR.1
    by_cases q : m ≤ 100
    · rw [if_pos q, if_pos rfl, if_pos (show nI m ≤ 100 from nI_le (b := 100) q (by omega)), ld_n j rfl hj (by omega)]
      obtain ⟨s, t, g1, g2, g3, g4, _⟩ := follow_ok hn h hj hR hm q
      rw [g1, g2, bd_e, bd2_e]
      exact ⟨_, _, _, rfl, rfl, c, (h.sameC g3).sameM g4⟩
    · rw [if_neg q, if_neg (show ¬ nI m ≤ 100 from nI_ge (a := 100) (by omega) (by omega)), if_neg (show ¬ (-6 : Int32) = 0 by decide), RS5, RB5]
      exact ⟨_, _, _, rfl, rfl, c, h.ref 5⟩
  · rw [e1, e2, bd_e, bd_e, if_neg (neg_ne hk), if_neg (neg_ne hk), refuse_S σ k (by omega) rfl, refusedB_M τ k (by omega) rfl]
    refine ⟨_, _, _, rfl, ?_, c, h.ref k⟩
    match k, hk with
    | 0, _ => rfl
    | 1, _ => rfl
    | 2, _ => rfl
    | 3, _ => rfl
    | 4, _ => rfl
theorem ag_behind_ok {n : Nat} (hn : 1000000 ≤ n) : ag_behind n Rel := by
  rintro σ τ a1 a2 a3 ⟨c, h⟩
  unfold f_X11_behind f_X12_behind
  simp only [jn_e]
  rcases told_ok h a1 a2 with ⟨j, z, m, hj, rfl, rfl, hm, hR, e1, e2⟩ | ⟨k, hk, e1, e2⟩
  · rw [e1, e2, bd_e, bd_e, if_pos rfl]
    have hz := hR.1
    have e0 : ∀ {β : Type} (A B : β), (if (if m ≤ 100 then (0 : Int32) else -6) = 0 then A else if (if m ≤ 100 then (0 : Int32) else -6) = -6 then A else B) = A := by
      intro β A B
      by_cases q : m ≤ 100
      · rw [if_pos q, if_pos rfl]
      · rw [if_neg q, if_neg (by decide), if_pos rfl]
    rw [e0]
    rcases rng (x := a3) (m := 3) 3 rfl (by decide) with ⟨k, hk, rfl, p1, p2, p3⟩ | ⟨p3, p⟩
    · rw [if_neg p1, if_pos p2, p3, if_neg one_ne]
      by_cases q : m ≤ 100
      · rw [if_pos q, if_pos rfl, if_pos (show nI m ≤ 100 from nI_le (b := 100) q (by omega)), ld_n j rfl hj (by omega)]
        obtain ⟨s, t, g1, g2, g3, g4, g5, g6⟩ := follow_ok hn h hj hR hm q
        have hr := (h.sameC g3).sameM g4
        rw [g1, g2, bd_e, bd2_e]
        by_cases w : gi s 30 = -1
        · obtain ⟨w1, w2⟩ := g5 w
          rw [if_pos w, if_pos w, ld169, lt_e, lt_e, w1, w2, hr.1.2.2.2.2.2.1]
          by_cases u0 : nI k = 0
          · rw [if_pos u0, if_pos u0]; exact ⟨_, _, _, rfl, rfl, c, hr⟩
          · rw [if_neg u0, if_neg u0]
            by_cases u1 : nI k = 1
            · rw [if_pos u1, if_pos u1]; exact ⟨_, _, _, rfl, rfl, c, hr⟩
            · rw [if_neg u1, if_neg u1]
              by_cases u2 : nI k = 2
              · rw [if_pos u2, if_pos u2]
                by_cases u3 : (ga t 0 169 &&& (gi t 10 ^^^ (-1))) = 0
                · rw [if_pos u3, if_pos u3]; exact ⟨_, _, _, rfl, rfl, c, hr⟩
                · rw [if_neg u3, if_neg u3]; exact ⟨_, _, _, rfl, rfl, c, hr⟩
              · rw [if_neg u2, if_neg u2]; exact ⟨_, _, _, rfl, rfl, c, hr⟩
        · rw [if_neg w, if_neg w, RC5, RM5]; exact ⟨_, _, _, rfl, rfl, c, hr.ref 5⟩
      · rw [if_neg q, if_neg (show ¬ nI m ≤ 100 from nI_ge (a := 100) (by omega) (by omega)), if_neg (show ¬ (-6 : Int32) = 0 by decide), RC5, RM5]
        exact ⟨_, _, _, rfl, rfl, c, h.ref 5⟩
    · rw [p3, if_pos rfl, RM4]
      rcases p with p | ⟨p, p'⟩
      · rw [if_pos p, RC4]; exact ⟨_, _, _, rfl, rfl, c, h.ref 4⟩
      · rw [if_neg p, if_neg p', RC4]; exact ⟨_, _, _, rfl, rfl, c, h.ref 4⟩
  · rw [e1, e2, bd_e, bd_e, if_neg (neg_ne hk), if_neg (neg_ne hk), if_neg (neg_ne6 hk), refuse_C σ k (by omega) rfl, refused_M τ k (by omega) rfl]
    exact ⟨_, _, _, rfl, rfl, c, h.ref k⟩
