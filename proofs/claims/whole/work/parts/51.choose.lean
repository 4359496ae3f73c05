/-! CHOOSE: the class's best plan -/
def Sam14 (σ σ1 : SC) : Prop := (∀ k, gi σ1 k = gi σ k) ∧ (∀ a, a ≠ 14 → ga σ1 a = ga σ a) ∧ ∀ j, gl σ1 j = gl σ j
theorem Sam14.rf (σ : SC) : Sam14 σ σ := ⟨fun _ => rfl, fun _ _ => rfl, fun _ => rfl⟩
theorem Sam14.tr {a b c : SC} (h : Sam14 a b) (h2 : Sam14 b c) : Sam14 a c := ⟨fun k => (h2.1 k).trans (h.1 k), fun k p => (h2.2.1 k p).trans (h.2.1 k p), fun j => (h2.2.2 j).trans (h.2.2 j)⟩
theorem Sam14.a (s : SC) (f : Nat → Int32) : Sam14 s (sa s 14 f) := by
  refine ⟨fun _ => rfl, fun q hq => ?_, fun _ => rfl⟩
  rw [ga_sa, if_neg hq]
theorem Sam14.p {σ s : SC} (h : Sam14 σ s) : SamP σ s := ⟨fun k _ => h.1 k, fun a p => h.2.1 a (by omega), h.2.2⟩
def Sam15 (σ σ1 : SC) : Prop := (∀ k, k ≠ 21 → gi σ1 k = gi σ k) ∧ (∀ a, a ≠ 15 → ga σ1 a = ga σ a) ∧ ∀ j, gl σ1 j = gl σ j
theorem Sam15.rf (σ : SC) : Sam15 σ σ := ⟨fun _ _ => rfl, fun _ _ => rfl, fun _ => rfl⟩
theorem Sam15.tr {a b c : SC} (h : Sam15 a b) (h2 : Sam15 b c) : Sam15 a c := ⟨fun k p => (h2.1 k p).trans (h.1 k p), fun k p => (h2.2.1 k p).trans (h.2.1 k p), fun j => (h2.2.2 j).trans (h.2.2 j)⟩
theorem Sam15.p {σ s : SC} (h : Sam15 σ s) : SamP σ s := ⟨fun k p => h.1 k (by omega), fun a p => h.2.1 a (by omega), h.2.2⟩
/-- measured, with its order -/
def Msd (c : Nat) (s : SC) (xs : List Int32) (W o : Nat → Nat) : Prop :=
  gi s 17 = nI xs.length ∧ (∀ k, k < xs.length → ga s 12 k = nI (W k)) ∧ W 0 = 0 ∧ (∀ k a k', Ex c s xs k a k' → W k' ≤ W k + wt (ga s 3) a) ∧
  (∀ k, k < xs.length → k = 0 ∨ ∃ j a, Ex c s xs j a k ∧ W k = W j + wt (ga s 3) a) ∧ (∀ k, k < xs.length → W k % 1000 ≤ 300 ∧ W k ≤ 100000000) ∧
  (∀ i, i < xs.length → ga s 13 i = nI (o i) ∧ o i < xs.length) ∧ (∀ k, k < xs.length → ∃ i, i < xs.length ∧ o i = k) ∧ ∀ i j, i < j → j < xs.length → W (o i) ≤ W (o j)
theorem Msd.same {c : Nat} {s s' : SC} {xs : List Int32} {W o : Nat → Nat} (h : Msd c s xs W o) (e : SamP s s') (e17 : gi s' 17 = gi s 17) (e12 : ga s' 12 = ga s 12) (e13 : ga s' 13 = ga s 13) : Msd c s' xs W o := by
  have ex := Ex.same (c := c) (xs := xs) e
  have e3 := e.2.1 3 (by omega)
  unfold Msd at *
  rw [ex, e3, e17, e12, e13]; exact h
theorem leastG_C {n c : Nat} {s : SC} {xs : List Int32} {W o : Nat → Nat} (hn : 1000000 ≤ n) (h : SX c s xs) (hq : Msd c s xs W o) (gg : Int32) :
    ((∀ k, k < xs.length → ¬ sub gg (ga s 10 k)) ∧ f_X4_leastWithGoal n s gg = some (-1)) ∨
    (∃ g, g < xs.length ∧ sub gg (ga s 10 g) ∧ (∀ k, k < xs.length → sub gg (ga s 10 k) → W g ≤ W k) ∧ f_X4_leastWithGoal n s gg = some (nI (W g))) := by
  obtain ⟨q1, q2, q3, q4, q5, q6, q7, q8, q9⟩ := hq
  have hl := h.2.2.2.2.1.2.1
  unfold f_X4_leastWithGoal
  have key : ∀ (d f i : Nat), i + d = xs.length → d < f → (∀ p, p < i → ¬ sub gg (ga s 10 (o p))) →
      ((∀ k, k < xs.length → ¬ sub gg (ga s 10 k)) ∧ LX4_leastWithGoal_2 s gg (fun _ => some (-1)) f (nI i) = some (-1)) ∨
      (∃ g, g < xs.length ∧ sub gg (ga s 10 g) ∧ (∀ k, k < xs.length → sub gg (ga s 10 k) → W g ≤ W k) ∧ LX4_leastWithGoal_2 s gg (fun _ => some (-1)) f (nI i) = some (nI (W g))) := by
    intro d
    induction d with
    | zero =>
      intro f i hi hf hb
      obtain ⟨f, rfl⟩ : ∃ f', f = f' + 1 := ⟨f - 1, by omega⟩
      rw [LX4_leastWithGoal_2, q1, if_pos (nI_le (by omega) (by omega))]
      refine Or.inl ⟨fun k hk => ?_, rfl⟩
      obtain ⟨p, hp, e⟩ := q8 k hk
      rw [← e]; exact hb p (by omega)
    | succ d ih =>
      intro f i hi hf hb
      obtain ⟨f, rfl⟩ : ∃ f', f = f' + 1 := ⟨f - 1, by omega⟩
      obtain ⟨r1, r2⟩ := q7 i (by omega)
      rw [LX4_leastWithGoal_2, q1, if_neg (nI_ge (by omega) (by omega)), ld_n i rfl (by omega) (by omega), r1, ld_n (o i) rfl (by omega) (by omega), ld_n i rfl (by omega) (by omega), r1, ld_n (o i) rfl (by omega) (by omega), q2 (o i) r2, lt_e, nI_p1]
      by_cases w : sub gg (ga s 10 (o i))
      · rw [if_pos w]
        refine Or.inr ⟨o i, r2, w, fun k hk hs => ?_, rfl⟩
        obtain ⟨p, hp, e⟩ := q8 k hk
        rcases Nat.lt_or_ge p i with l | l
        · exact absurd (e ▸ hs) (hb p l)
        · rcases Nat.lt_or_ge i p with l2 | l2
          · rw [← e]; exact q9 i p l2 hp
          · rw [← e, show p = i by omega]; exact Nat.le_refl _
      · rw [if_neg w]
        refine ih f (i + 1) (by omega) (by omega) (fun p hp => ?_)
        rcases Nat.lt_or_ge p i with l | l
        · exact hb p l
        · rw [show p = i by omega]; exact w
  exact key xs.length n 0 (by omega) (by omega) (fun p hp => absurd hp (by omega))
def Onw (c : Nat) (s : SC) (xs : List Int32) (W : Nat → Nat) (k a : Nat) : Prop := ∃ k', Ex c s xs k a k' ∧ W k' = W k + wt (ga s 3) a ∧ ga s 14 k' ≠ 0
theorem onward_C {n c k : Nat} {s : SC} {xs : List Int32} {W o : Nat → Nat} (hn : 1000000 ≤ n) (h : SX c s xs) (hq : Msd c s xs W o) (hk : k < xs.length) :
    ((∀ a, a < c → ¬ Onw c s xs W k a) ∧ f_X4_leastOnward n s (nI k) = some (-1)) ∨ (∃ a, a < c ∧ Onw c s xs W k a ∧ (∀ a', a' < a → ¬ Onw c s xs W k a') ∧ f_X4_leastOnward n s (nI k) = some (nI a)) := by
  obtain ⟨q1, q2, q3, q4, q5, q6, q7, q8, q9⟩ := hq
  have hl := h.2.2.2.2.1.2.1
  have h24 := h.2.1
  unfold f_X4_leastOnward
  have key : ∀ (d f i : Nat), i + d = c → d < f → (∀ a, a < i → ¬ Onw c s xs W k a) →
      ((∀ a, a < c → ¬ Onw c s xs W k a) ∧ LX4_leastOnward_2 n s (nI k) (fun _ => some (-1)) f (nI i) = some (-1)) ∨ (∃ a, a < c ∧ Onw c s xs W k a ∧ (∀ a', a' < a → ¬ Onw c s xs W k a') ∧ LX4_leastOnward_2 n s (nI k) (fun _ => some (-1)) f (nI i) = some (nI a)) := by
    intro d
    induction d with
    | zero =>
      intro f i hi hf hb
      obtain ⟨f, rfl⟩ : ∃ f', f = f' + 1 := ⟨f - 1, by omega⟩
      rw [LX4_leastOnward_2, h.1, if_pos (nI_le (by omega) (by omega))]
      exact Or.inl ⟨fun a ha => hb a (by omega), rfl⟩
    | succ d ih =>
      intro f i hi hf hb
      obtain ⟨f, rfl⟩ : ∃ f', f = f' + 1 := ⟨f - 1, by omega⟩
      have next : ¬ Onw c s xs W k i → ((∀ a, a < c → ¬ Onw c s xs W k a) ∧ LX4_leastOnward_2 n s (nI k) (fun _ => some (-1)) f (nI i + 1) = some (-1)) ∨ (∃ a, a < c ∧ Onw c s xs W k a ∧ (∀ a', a' < a → ¬ Onw c s xs W k a') ∧ LX4_leastOnward_2 n s (nI k) (fun _ => some (-1)) f (nI i + 1) = some (nI a)) := by
        intro hno
        rw [nI_p1]
        refine ih f (i + 1) (by omega) (by omega) (fun p hp => ?_)
        rcases Nat.lt_or_ge p i with l | l
        · exact hb p l
        · rw [show p = i by omega]; exact hno
      rw [LX4_leastOnward_2, h.1, if_neg (nI_ge (by omega) (by omega))]
      simp only [lt_e]
      rcases comes_C hn h hk (a := i) (by omega) with ⟨hno, ec⟩ | ⟨k', hE, ec⟩
      · rw [ec, bd_e, if_pos rfl]
        exact next (fun ⟨k', he, _⟩ => hno he.2.2.1)
      · have hkN := hE.2.2.2.1
        have hcc := cc_le h (a := i) (by omega)
        have hwi : wt (ga s 3) i = 1000 * cn (ga s 3) i + 1 := rfl
        have m1 := q6 k hk
        have m2 := q6 k' hkN
        rw [ec, bd_e, if_neg (nI_nm1 (by omega)), ld_n k' rfl (by omega) (by omega), weight_C h hk (by omega) (q2 k hk), bd_e, q2 k' hkN, ld_n k' rfl (by omega) (by omega)]
        have uq : ∀ k2, Ex c s xs k i k2 → k2 = k' := fun k2 h2 => Ed_fun rfl h.2.2.1 h.2.2.2.2.1.2.2.1 h2 hE
        by_cases w : W k' = W k + wt (ga s 3) i
        · rw [if_pos (congrArg nI w)]
          by_cases w2 : ga s 14 k' = 0
          · rw [if_pos w2]; exact next (fun ⟨k2, he, _, z⟩ => z (by rw [uq k2 he]; exact w2))
          · rw [if_neg w2]; exact Or.inr ⟨i, by omega, ⟨k', hE, w, w2⟩, hb, rfl⟩
        · rw [if_neg (nI_ne w (by omega) (by omega))]
          exact next (fun ⟨k2, he, z, _⟩ => w (by rw [uq k2 he] at z; exact z))
  exact key c n 0 (by omega) (by omega) (fun p hp => absurd hp (by omega))
/-- what is marked is on a best way -/
def Mrk (c : Nat) (s : SC) (xs : List Int32) (gg : Int32) (W : Nat → Nat) (D k : Nat) : Prop := ga s 14 k ≠ 0 ↔ (W k = D ∧ sub gg (ga s 10 k)) ∨ (W k < D ∧ ∃ a, Onw c s xs W k a)
theorem mark_C {n c D : Nat} {xs : List Int32} {W o : Nat → Nat} {gg : Int32} (hn : 1000000 ≤ n) (hDl : D ≤ 100000000) : ∀ (m f : Nat) (s : SC), m ≤ xs.length → m < f → SX c s xs → Msd c s xs W o → (∀ q, m ≤ q → q < xs.length → Mrk c s xs gg W D (o q)) →
    ∃ s', LX4_markBest_7 n gg (nI D) (fun σ18 => some σ18) f s (nI m + (-1)) = some s' ∧ Sam14 s s' ∧ ∀ k, k < xs.length → Mrk c s' xs gg W D k := by
  intro m
  induction m with
  | zero =>
    intro f s hm hf h hq hb
    obtain ⟨f, rfl⟩ : ∃ f', f = f' + 1 := ⟨f - 1, by omega⟩
    refine ⟨s, ?_, Sam14.rf s, fun k hk => ?_⟩
    · rw [LX4_markBest_7, if_pos (show nI 0 + (-1) < 0 by decide)]
    · obtain ⟨p, hp, e⟩ := hq.2.2.2.2.2.2.2.1 k hk
      rw [← e]; exact hb p (by omega) hp
  | succ m ih =>
    intro f s hm hf h hq hb
    obtain ⟨f, rfl⟩ : ∃ f', f = f' + 1 := ⟨f - 1, by omega⟩
    have hq' := hq
    obtain ⟨q1, q2, q3, q4, q5, q6, q7, q8, q9⟩ := hq'
    have hl := h.2.2.2.2.1.2.1
    obtain ⟨r1, r2⟩ := q7 m (by omega)
    have m1 := q6 (o m) r2
    -- writing v at o m
    have go : ∀ v : Int32, (v ≠ 0 ↔ (W (o m) = D ∧ sub gg (ga s 10 (o m))) ∨ (W (o m) < D ∧ ∃ a, Onw c s xs W (o m) a)) →
        ∃ s', LX4_markBest_7 n gg (nI D) (fun σ18 => some σ18) f (sa s 14 (upd (ga s 14) (o m) v)) (nI m + (-1)) = some s' ∧ Sam14 s s' ∧ ∀ k, k < xs.length → Mrk c s' xs gg W D k := by
      intro v hv
      have e14 := Sam14.a s (upd (ga s 14) (o m) v)
      have on : ∀ q, m ≤ q → q < xs.length → ((∃ a, Onw c (sa s 14 (upd (ga s 14) (o m) v)) xs W (o q) a) ↔ ∃ a, Onw c s xs W (o q) a) := by
        intro q hmq hqN
        have hle : W (o m) ≤ W (o q) := by
          rcases Nat.lt_or_ge m q with l | l
          · exact q9 m q l hqN
          · rw [show q = m by omega]; exact Nat.le_refl _
        have ne : ∀ k' a, W k' = W (o q) + wt (ga s 3) a → k' ≠ o m := by
          intro k' a e e2
          have : wt (ga s 3) a = 1000 * cn (ga s 3) a + 1 := rfl
          rw [e2] at e; omega
        constructor
        · rintro ⟨a, k', z1, z2, z3⟩
          have z2 : W k' = W (o q) + wt (ga s 3) a := z2
          have z3 : upd (ga s 14) (o m) v k' ≠ 0 := z3
          rw [ud_s, if_neg (ne k' a z2)] at z3
          exact ⟨a, k', z1, z2, z3⟩
        · rintro ⟨a, k', z1, z2, z3⟩
          refine ⟨a, k', z1, z2, ?_⟩
          show upd (ga s 14) (o m) v k' ≠ 0
          rw [ud_s, if_neg (ne k' a z2)]; exact z3
      obtain ⟨s', e, p1, p2⟩ := ih f (sa s 14 (upd (ga s 14) (o m) v)) (by omega) (by omega) (h.same e14.p) (hq.same e14.p rfl rfl rfl) (fun q hmq hqN => by
        unfold Mrk
        rw [on q hmq hqN]
        show upd (ga s 14) (o m) v (o q) ≠ 0 ↔ (W (o q) = D ∧ sub gg (ga s 10 (o q))) ∨ _
        rw [ud_s]
        by_cases w : o q = o m
        · rw [if_pos w, w]; exact hv
        · rw [if_neg w]
          have : m ≠ q := fun e => w (by rw [e])
          exact hb q (by omega) hqN)
      exact ⟨s', e, e14.tr p1, p2⟩
    have n0 : ¬ nI m < 0 := nI_pos (by omega)
    rw [pk_m1, LX4_markBest_7, if_neg n0]
    simp only [jn_e, lt_e]
    rw [ld_n m rfl (by omega) (by omega), r1, ld_n (o m) rfl (by omega) (by omega), ld_n (o m) rfl (by omega) (by omega), ld_n (o m) rfl (by omega) (by omega), q2 (o m) r2, nI_clamp (by omega)]
    simp only [ck_n (o m) rfl (show o m < 300 by omega) (show 300 < 2 ^ 31 by omega)]
    have b1 : (vp_nar .boolean 1 : Int32) ≠ 0 := by decide
    have b0 : (vp_nar .boolean 0 : Int32) = 0 := by decide
    have tail : ¬ (W (o m) = D ∧ sub gg (ga s 10 (o m))) → ∃ s', (if (0 : Int32) = 0 then if nI D ≤ nI (W (o m)) then LX4_markBest_7 n gg (nI D) (fun σ18 => some σ18) f (sa s 14 (upd (ga s 14) (o m) (vp_nar .boolean 0))) (nI m + (-1)) else bd (f_X4_leastOnward n s (nI (o m))) (fun v12 => if v12 = (-1) then LX4_markBest_7 n gg (nI D) (fun σ18 => some σ18) f (sa s 14 (upd (ga s 14) (o m) (vp_nar .boolean 0))) (nI m + (-1)) else LX4_markBest_7 n gg (nI D) (fun σ18 => some σ18) f (sa s 14 (upd (ga s 14) (o m) (vp_nar .boolean 1))) (nI m + (-1))) else LX4_markBest_7 n gg (nI D) (fun σ18 => some σ18) f (sa s 14 (upd (ga s 14) (o m) (vp_nar .boolean 1))) (nI m + (-1))) = some s' ∧ Sam14 s s' ∧ ∀ k, k < xs.length → Mrk c s' xs gg W D k := by
      intro hno
      rw [if_pos rfl]
      by_cases w : D ≤ W (o m)
      · rw [if_pos (nI_le w (by omega))]
        refine go _ ⟨fun z => absurd b0 z, fun z => ?_⟩
        rcases z with z | ⟨z, _⟩
        · exact absurd z hno
        · omega
      · rw [if_neg (nI_ge (by omega) (by omega))]
        rcases onward_C hn h hq r2 with ⟨z1, z2⟩ | ⟨a, ha, z1, z2, z3⟩
        · rw [z2, bd_e, if_pos rfl]
          refine go _ ⟨fun z => absurd b0 z, fun z => ?_⟩
          rcases z with z | ⟨_, a, z⟩
          · exact absurd z hno
          · exact absurd z (z1 a (by obtain ⟨k', he, _⟩ := z; exact he.2.1))
        · rw [z3, bd_e, if_neg (nI_nm1 (by have := h.2.1; omega))]
          exact go _ ⟨fun _ => Or.inr ⟨by omega, a, z1⟩, fun _ => b1⟩
    by_cases w : W (o m) = D
    · rw [if_pos (congrArg nI w)]
      by_cases w2 : (gg &&& (ga s 10 (o m) ^^^ (-1))) = 0
      · rw [if_pos w2, if_neg one_ne]
        exact go _ ⟨fun _ => Or.inl ⟨w, w2⟩, fun _ => b1⟩
      · rw [if_neg w2]; exact tail (fun z => w2 z.2)
    · rw [if_neg (nI_ne w (by omega) (by omega))]; exact tail (fun z => w z.1)
