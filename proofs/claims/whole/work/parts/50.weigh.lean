/-! MEASURE: the machine's side -/
def SamW (σ σ1 : SC) : Prop := (∀ k, k ≠ 17 → gi σ1 k = gi σ k) ∧ (∀ a, a ≠ 12 → a ≠ 13 → ga σ1 a = ga σ a) ∧ ∀ j, gl σ1 j = gl σ j
theorem SamW.rf (σ : SC) : SamW σ σ := ⟨fun _ _ => rfl, fun _ _ _ => rfl, fun _ => rfl⟩
theorem SamW.tr {a b c : SC} (h : SamW a b) (h2 : SamW b c) : SamW a c := ⟨fun k p => (h2.1 k p).trans (h.1 k p), fun k p q => (h2.2.1 k p q).trans (h.2.1 k p q), fun j => (h2.2.2 j).trans (h.2.2 j)⟩
theorem SamW.i {σ s : SC} (v : Int32) (h : SamW σ s) : SamW σ (si s 17 v) := by
  refine ⟨fun q hq => ?_, h.2.1, h.2.2⟩
  rw [gi_si, if_neg hq]; exact h.1 q hq
theorem SamW.a {σ s : SC} {k : Nat} (f : Nat → Int32) (h : SamW σ s) (hk : k = 12 ∨ k = 13) : SamW σ (sa s k f) := by
  refine ⟨h.1, fun q hq hq2 => ?_, h.2.2⟩
  rw [ga_sa, if_neg (by omega)]; exact h.2.1 q hq hq2
theorem SamW.p {σ s : SC} (h : SamW σ s) : SamP σ s := ⟨fun k p => h.1 k (by omega), fun a p => h.2.1 a (by omega) (by omega), h.2.2⟩
theorem bring_C {n c i F : Nat} {s : SC} {xs : List Int32} {o W : Nat → Nat} (hn : 1000000 ≤ n) (h : SX c s xs) (hM : MS xs.length s F o W) (hJ : DJ xs.length (Ex c s xs) (wt (ga s 3)) i i 0 F o W) (hi : i < F) :
    ∃ s' o', f_X4_bringLightest n s (nI i) = some s' ∧ SamW s s' ∧ MS xs.length s' F o' W ∧ DJ xs.length (Ex c s xs) (wt (ga s 3)) (i + 1) i 0 F o' W := by
  obtain ⟨m17, m13, m12⟩ := hM
  have hl := h.2.2.2.2.1.2.1
  have hF := hJ.1
  have hoN := hJ.2.1
  have hfd : ∀ q, q < F → Fnd F o (o q) := fun q hq => ⟨q, hq, rfl⟩
  have hlt : ∀ q, q < F → W (o q) < 2 ^ 30 := fun q hq => DJ_lt hJ hl (hfd q hq)
  have hwt : ∀ q, q < F → ga s 12 (o q) = nI (W (o q)) := fun q hq => (m12 (o q) (hoN q hq)).1 (hfd q hq)
  unfold f_X4_bringLightest
  rw [lt_e, nI_p1]
  generalize hK : (fun w8 => ld (ga s 13) 300 (nI i) (fun v9 => ld (ga s 13) 300 w8 (fun v10 => ck 300 (nI i) (lt (sa s 13 (upd (ga s 13) (nI i).toNatClampNeg v10)) (fun σ11 => ck 300 w8 (lt (sa σ11 13 (upd (ga σ11 13) w8.toNatClampNeg v9)) (fun σ12 => some σ12))))))) = K
  have b := loop_up (fun f q (m : Nat) => LX4_bringLightest_6 s K f (nI m) (nI q)) (fun m => K (nI m)) (fun q m => if W (o m) ≤ W (o q) then m else q) F
    (fun q m => i ≤ m ∧ m < q ∧ ∀ p, i ≤ p → p < q → W (o m) ≤ W (o p)) ?_ ?_ (F - (i + 1)) n (i + 1) i (by omega) (by omega) ⟨Nat.le_refl _, by omega, fun p hp hp2 => by rw [show p = i by omega]; exact Nat.le_refl _⟩
  · obtain ⟨e, b1, b2, b3⟩ := b
    have e : LX4_bringLightest_6 s K n (nI i) (nI (i + 1)) = _ := e
    rw [e]
    generalize itf (fun q m => if W (o m) ≤ W (o q) then m else q) (i + 1) (F - (i + 1)) i = m at b1 b2 b3
    rw [← hK]
    show ∃ s' o', ld (ga s 13) 300 (nI i) _ = some s' ∧ _
    rw [ld_n i rfl (by omega) (by omega), ld_n m rfl (by omega) (by omega), ck_n i rfl (by omega) (by omega), lt_e, ck_n m rfl (by omega) (by omega), lt_e, nI_clamp (by omega), nI_clamp (by omega)]
    obtain ⟨j1, j2⟩ := DJ_swap hJ b1 b2 (fun q hq hq2 => b3 q hq hq2)
    refine ⟨_, fun q => o (swp i m q), rfl, SamW.a _ (SamW.a _ (SamW.rf s) (by omega)) (by omega), ⟨m17, fun q hq => ?_, fun k hk => ?_⟩, j1⟩
    · show upd (upd (ga s 13) i (ga s 13 m)) m (ga s 13 i) q = nI (o (swp i m q))
      rw [ud_s, ud_s, m13 i hi, m13 m b2, m13 q hq]
      rcases swp_c i m q with ⟨a, b⟩ | ⟨a, b, d⟩ | ⟨a, b, d⟩
      · rw [b]
        by_cases w : q = m
        · rw [if_pos w, ← w, a]
        · rw [if_neg w, if_pos a]
      · rw [if_pos b, d]
      · rw [if_neg b, if_neg a, d]
    · show (Fnd F (fun q => o (swp i m q)) k → ga s 12 k = _) ∧ (¬ Fnd F (fun q => o (swp i m q)) k → ga s 12 k = -1)
      rw [j2 k]; exact m12 k hk
  · intro f m hm
    show LX4_bringLightest_6 s K (f + 1) (nI m) (nI F) = _
    rw [LX4_bringLightest_6, m17, if_pos (nI_le (Nat.le_refl F) (by omega))]
  · intro f q m hq hI
    obtain ⟨i1, i2, i3⟩ := hI
    have om := hoN m (by omega)
    have oq := hoN q hq
    have l1 := hlt m (by omega)
    have l2 := hlt q hq
    constructor
    · show LX4_bringLightest_6 s K (f + 1) (nI m) (nI q) = LX4_bringLightest_6 s K f (nI _) (nI (q + 1))
      rw [LX4_bringLightest_6, m17, if_neg (nI_ge hq (by omega)), ld_n q rfl (by omega) (by omega), m13 q hq, ld_n (o q) rfl (by omega) (by omega), ld_n m rfl (by omega) (by omega), m13 m (by omega), ld_n (o m) rfl (by omega) (by omega), hwt q hq, hwt m (by omega), lt_e, lt_e, nI_p1]
      by_cases w : W (o m) ≤ W (o q)
      · rw [if_pos w, if_pos (nI_le w (by omega))]
      · rw [if_neg w, if_neg (nI_ge (by omega) (by omega))]
    · by_cases w : W (o m) ≤ W (o q)
      · rw [if_pos w]
        refine ⟨i1, by omega, fun p hp hp2 => ?_⟩
        rcases Nat.lt_or_ge p q with l | l
        · exact i3 p hp l
        · rw [show p = q by omega]; exact w
      · rw [if_neg w]
        refine ⟨by omega, by omega, fun p hp hp2 => ?_⟩
        rcases Nat.lt_or_ge p q with l | l
        · have := i3 p hp l; omega
        · rw [show p = q by omega]; exact Nat.le_refl _
theorem lighten_C {n c i : Nat} {xs : List Int32} (hn : 1000000 ≤ n) (K : SC → Option SC) : ∀ (d f A F : Nat) (s : SC) (o W : Nat → Nat), A + d = c → d < f → SX c s xs → MS xs.length s F o W → DJ xs.length (Ex c s xs) (wt (ga s 3)) (i + 1) i A F o W → i < F →
    ∃ s' F' o' W', LX4_lightenFrom_2 n (nI (o i)) K f s (nI A) = K s' ∧ SamW s s' ∧ MS xs.length s' F' o' W' ∧ DJ xs.length (Ex c s xs) (wt (ga s 3)) (i + 1) i c F' o' W' ∧ i < F' := by
  intro d
  induction d with
  | zero =>
    intro f A F s o W hA hf h hM hJ hi
    obtain ⟨f, rfl⟩ : ∃ f', f = f' + 1 := ⟨f - 1, by omega⟩
    have e : A = c := by omega
    subst e
    refine ⟨s, F, o, W, ?_, SamW.rf s, hM, hJ, hi⟩
    rw [LX4_lightenFrom_2, h.1, if_pos (nI_le (Nat.le_refl _) (by have := h.2.1; omega))]
  | succ d ih =>
    intro f A F s o W hA hf h hM hJ hi
    obtain ⟨f, rfl⟩ : ∃ f', f = f' + 1 := ⟨f - 1, by omega⟩
    have hM' := hM
    obtain ⟨m17, m13, m12⟩ := hM'
    have hl := h.2.2.2.2.1.2.1
    have h24 := h.2.1
    have hF := hJ.1
    have oi := hJ.2.1 i hi
    have hxi : Fnd F o (o i) := ⟨i, hi, rfl⟩
    have hWx := (m12 (o i) oi).1 hxi
    have lx := DJ_lt hJ hl hxi
    have hcc := cc_le h (a := A) (by omega)
    have hw : ∀ a, wt (ga s 3) a = 1000 * cn (ga s 3) a + 1 := fun _ => rfl
    have hwA := hw A
    -- what each continuation needs
    have go : ∀ (s1 : SC) (F1 : Nat) (o1 W1 : Nat → Nat), SamW s s1 → MS xs.length s1 F1 o1 W1 → DJ xs.length (Ex c s xs) (wt (ga s 3)) (i + 1) i (A + 1) F1 o1 W1 → i < F1 → o1 i = o i →
        ∃ s' F' o' W', LX4_lightenFrom_2 n (nI (o i)) K f s1 (nI (A + 1)) = K s' ∧ SamW s s' ∧ MS xs.length s' F' o' W' ∧ DJ xs.length (Ex c s xs) (wt (ga s 3)) (i + 1) i c F' o' W' ∧ i < F' := by
      intro s1 F1 o1 W1 p1 p2 p3 p4 p5
      have ex := Ex.same (c := c) (xs := xs) p1.p
      have e3 := p1.2.1 3 (by omega) (by omega)
      obtain ⟨s', F', o', W', r1, r2, r3, r4, r5⟩ := ih f (A + 1) F1 s1 o1 W1 (by omega) (by omega) (h.same p1.p) p2 (by rw [ex, e3]; exact p3) p4
      rw [p5] at r1
      rw [ex, e3] at r4
      exact ⟨s', F', o', W', r1, p1.tr r2, r3, r4, r5⟩
    rw [LX4_lightenFrom_2, h.1, if_neg (nI_ge (by omega) (by omega))]
    simp only [jn_e, lt_e]
    rcases comes_C hn h oi (a := A) (by omega) with ⟨hno, ec⟩ | ⟨k', hE, ec⟩
    · rw [ec, bd_e, if_pos rfl, nI_p1]
      refine go s F o W (SamW.rf s) hM (DJ_keep hJ (fun k' he => absurd he.2.2.1 hno)) hi rfl
    · have hkN := hE.2.2.2.1
      have hfun : ∀ k2, Ex c s xs (o i) A k2 → k2 = k' := fun k2 h2 => Ed_fun rfl h.2.2.1 h.2.2.2.2.1.2.2.1 h2 hE
      rw [ec, bd_e, if_neg (nI_nm1 (by omega)), weight_C h oi (by omega) hWx, bd_e, ld_n k' rfl (by omega) (by omega), ld_n k' rfl (by omega) (by omega), ck_n k' rfl (by omega) (by omega), ck_n k' rfl (by omega) (by omega)]
      rcases Classical.em (Fnd F o k') with hk | hk
      · have hWk := (m12 k' hkN).1 hk
        have lk := DJ_lt hJ hl hk
        rw [hWk, if_neg (nI_nm1 (by omega))]
        by_cases q : W k' ≤ W (o i) + wt (ga s 3) A
        · rw [if_pos (nI_le q (by omega)), nI_p1]
          exact go s F o W (SamW.rf s) hM (DJ_keep hJ (fun k2 he => by rw [hfun k2 he]; exact ⟨hk, q⟩)) hi rfl
        · rw [if_neg (nI_ge (by omega) (by omega)), nI_p1, nI_clamp (by omega)]
          refine go _ F o (fun k => if k = k' then W (o i) + wt (ga s 3) A else W k) (SamW.a _ (SamW.rf s) (by omega)) ⟨m17, m13, fun k hkk => ?_⟩ (DJ_set hJ hw hcc.2 hi hE hfun hk (by omega)) hi rfl
          show (Fnd F o k → upd (ga s 12) k' (nI (W (o i) + wt (ga s 3) A)) k = nI (if k = k' then _ else W k)) ∧ (¬ Fnd F o k → upd (ga s 12) k' (nI (W (o i) + wt (ga s 3) A)) k = -1)
          rw [ud_s]
          by_cases e : k = k'
          · rw [if_pos e, if_pos e]
            exact ⟨fun _ => rfl, fun w => absurd (e ▸ hk) w⟩
          · rw [if_neg e, if_neg e]; exact m12 k hkk
      · obtain ⟨f1, f2, f3⟩ := DJ_new hJ hw hcc.2 hi hE hfun hk hkN
        rw [(m12 k' hkN).2 hk, if_pos rfl, m17, if_neg (show ¬ (300 : Int32) ≤ nI F from nI_ge (b := 300) (by omega) (by omega)), gi_sa, m17, ck_n F rfl (by omega) (by omega), nI_clamp (by omega), nI_clamp (by omega), gi_sa, gi_sa, m17, nI_p1, nI_p1]
        refine go _ (F + 1) _ _ (SamW.i _ (SamW.a _ (SamW.a _ (SamW.rf s) (by omega)) (by omega))) ⟨rfl, fun q hq => ?_, fun k hkk => ?_⟩ f2 (by omega) (if_neg (by omega))
        · show upd (ga s 13) F (nI k') q = nI (if q = F then k' else o q)
          rw [ud_s]
          by_cases e : q = F
          · rw [if_pos e, if_pos e]
          · rw [if_neg e, if_neg e]; exact m13 q (by omega)
        · show (_ → upd (ga s 12) k' (nI (W (o i) + wt (ga s 3) A)) k = nI (if k = k' then _ else W k)) ∧ (_ → upd (ga s 12) k' (nI (W (o i) + wt (ga s 3) A)) k = -1)
          rw [ud_s, f3 k]
          by_cases e : k = k'
          · rw [if_pos e, if_pos e]
            exact ⟨fun _ => rfl, fun w => absurd (Or.inl e) w⟩
          · rw [if_neg e, if_neg e]
            have m := m12 k hkk
            exact ⟨fun w => m.1 (w.resolve_left e), fun w => m.2 (fun z => w (Or.inr z))⟩
theorem meas_C {n c : Nat} {xs : List Int32} (hn : 1000000 ≤ n) : ∀ (d f i F : Nat) (s : SC) (o W : Nat → Nat), i + d = 301 → d < f → SX c s xs → MS xs.length s F o W → DJ xs.length (Ex c s xs) (wt (ga s 3)) i i 0 F o W → i ≤ F →
    ∃ s' F' o' W', LX4_measure_42 n (fun σ12 => some σ12) f s (nI i) = some s' ∧ SamW s s' ∧ MS xs.length s' F' o' W' ∧ DJ xs.length (Ex c s xs) (wt (ga s 3)) F' F' 0 F' o' W' := by
  intro d
  induction d with
  | zero => intro f i F s o W h1 h2 h hM hJ hi; have := h.2.2.2.2.1.2.1; have := hJ.1; omega
  | succ d ih =>
    intro f i F s o W h1 h2 h hM hJ hi
    obtain ⟨f, rfl⟩ : ∃ f', f = f' + 1 := ⟨f - 1, by omega⟩
    have hl := h.2.2.2.2.1.2.1
    have hF := hJ.1
    rw [LX4_measure_42, hM.1]
    by_cases q : i < F
    · rw [if_neg (show ¬ (300 : Int32) ≤ nI i from nI_ge (b := 300) (by omega) (by omega)), if_neg (nI_ge q (by omega))]
      obtain ⟨s1, o1, e1, p1, p2, p3⟩ := bring_C hn h hM hJ q
      have ex := Ex.same (c := c) (xs := xs) p1.p
      have e3 := p1.2.1 3 (by omega) (by omega)
      rw [e1, bd_e, ld_n i rfl (by omega) (by omega), p2.2.1 i q]
      unfold f_X4_lightenFrom
      obtain ⟨s2, F2, o2, W2, e2, q1, q2, q3, q4⟩ := lighten_C hn (fun σ16 => some σ16) c n 0 F s1 o1 W (by omega) (by have := h.2.1; omega) (h.same p1.p) p2 (by rw [ex, e3]; exact p3) q
      have e2 : LX4_lightenFrom_2 n (nI (o1 i)) (fun σ16 => some σ16) n s1 0 = some s2 := e2
      rw [e2, bd_e, lt_e, nI_p1]
      have ex2 := Ex.same (c := c) (xs := xs) (p1.tr q1).p
      have e32 := (p1.tr q1).2.1 3 (by omega) (by omega)
      rw [ex, e3] at q3
      obtain ⟨j1, j2, j3, j4, j6, j7, j8, j9⟩ := q3
      obtain ⟨s3, F3, o3, W3, r1, r2, r3, r4⟩ := ih f (i + 1) F2 s2 o2 W2 (by omega) (by omega) (h.same (p1.tr q1).p) q2 (by
        rw [ex2, e32]
        exact ⟨j1, j2, j3, j4, j6, fun p a k' hp hpF he => j7 p a k' (by have : a < c := he.2.1; omega) hpF he, j8, j9⟩) (by omega)
      rw [ex2, e32] at r4
      exact ⟨s3, F3, o3, W3, r1, (p1.tr q1).tr r2, r3, r4⟩
    · have e : i = F := by omega
      subst e
      refine ⟨s, i, o, W, ?_, SamW.rf s, hM, hJ⟩
      rw [if_pos (nI_le (Nat.le_refl i) (by omega))]
      split <;> rfl
theorem MeasP_of {c : Nat} {s : SC} {xs : List Int32} {F : Nat} {o W : Nat → Nat} (h : SX c s xs) (hM : MS xs.length s F o W) (hJ : DJ xs.length (Ex c s xs) (wt (ga s 3)) F F 0 F o W) :
    MeasP c (ga s 0) (ga s 1) (ga s 2) (ga s 3) xs.length (ga s 10) W (ga s 12) (ga s 13) (gi s 17) := by
  obtain ⟨m17, m13, m12⟩ := hM
  obtain ⟨_, h24, hS, hH, hB, h14, hcost⟩ := h
  have hl := hB.2.1
  obtain ⟨j1, j2, j3, ⟨j4, j5⟩, j6, j7, j8, j9⟩ := hJ
  have all : ∀ k, k < xs.length → Fnd F o k := by
    intro k
    induction k using Nat.strongRecOn with
    | _ k ih =>
      intro hk
      rcases hB.2.2.2.2.1 k hk with e | ⟨j, a, z1, z2, z3, z4⟩
      · rw [e]; exact j4
      · obtain ⟨q, hq, e⟩ := ih j z1 (by omega)
        have he : Ex c s xs (o q) a k := by
          rw [e]
          exact ⟨by omega, z2, by rw [hS j (by omega)]; exact z3, hk, by rw [hS k hk, hS j (by omega)]; exact z4⟩
        exact (j7 q a k (Or.inl hq) hq he).1
  have hFN : F = xs.length := by
    have hc : ∃ g : Nat → Nat, ∀ k, k < xs.length → g k < F ∧ o (g k) = k := by
      refine ⟨fun k => if hk : k < xs.length then Classical.choose (all k hk) else 0, fun k hk => ?_⟩
      show (if hk : k < xs.length then Classical.choose (all k hk) else 0) < F ∧ o (if hk : k < xs.length then Classical.choose (all k hk) else 0) = k
      rw [dif_pos hk]
      exact Classical.choose_spec (all k hk)
    obtain ⟨g, hg⟩ := hc
    have := pig F xs.length g (fun k hk => (hg k hk).1) (fun k k' hk hk' e => by rw [← (hg k hk).2, ← (hg k' hk').2, e])
    omega
  refine ⟨by rw [m17, hFN], fun k hk => (m12 k hk).1 (all k hk), j5, fun k a k' he => ?_, fun k hk => ?_, fun k hk => ?_, o, fun i hi => ⟨m13 i (by omega), j2 i (by omega)⟩, fun k hk => ?_, fun i j hij hj => j6 i j hij (by omega) (by omega)⟩
  · obtain ⟨q, hq, e⟩ := all k he.1
    have he2 : Ex c s xs (o q) a k' := by rw [e]; exact he
    have := (j7 q a k' (Or.inl hq) hq he2).2
    rw [e] at this; exact this
  · obtain ⟨q, hq, e⟩ := all k hk
    rcases j8 q hq with z | ⟨p, a, z1, z2, z3, z4⟩
    · rw [e] at z; exact Or.inl z
    · rw [e] at z3 z4
      exact Or.inr ⟨o p, a, z3, z4⟩
  · obtain ⟨q, hq, e⟩ := all k hk
    obtain ⟨C, L, z1, z2, z3, z4⟩ := j9 q hq
    rw [e] at z1
    omega
  · obtain ⟨q, hq, e⟩ := all k hk
    exact ⟨q, by omega, e⟩
/-- after measuring: what the class has kept -/
theorem measure_ok {n c : Nat} {s : SC} {xs : List Int32} (hn : 1000000 ≤ n) (h : SX c s xs) (h18 : gi s 18 = 0) :
    ∃ s' W, f_X4_measure n s = some s' ∧ SamW (si s 18 1) s' ∧ MeasP c (ga s' 0) (ga s' 1) (ga s' 2) (ga s' 3) xs.length (ga s' 10) W (ga s' 12) (ga s' 13) (gi s' 17) := by
  unfold f_X4_measure
  rw [if_pos h18]
  simp only [lt_e]
  rw [ck_n (i := 0) 0 rfl (by omega) (by omega), ck_n (i := 0) 0 rfl (by omega) (by omega)]
  have hB := h.2.2.2.2.1
  have hpos := hB.1
  have s0 : SamW (si s 18 1) (si (sa (sa (sa (si s 18 1) 12 (fun _ => (-1))) 12 (upd (ga (sa (si s 18 1) 12 (fun _ => (-1))) 12) (0 : Int32).toNatClampNeg 0)) 13 (upd (ga (sa (sa (si s 18 1) 12 (fun _ => (-1))) 12 (upd (ga (sa (si s 18 1) 12 (fun _ => (-1))) 12) (0 : Int32).toNatClampNeg 0)) 13) (0 : Int32).toNatClampNeg 0)) 17 1) :=
    SamW.i _ (SamW.a _ (SamW.a _ (SamW.a _ (SamW.rf _) (by omega)) (by omega)) (by omega))
  have hq : SX c (si s 18 1) xs := h.same (SamP.i _ (SamP.rf s) (by omega) (by omega))
  have fd : ∀ k, Fnd 1 (fun _ => 0) k ↔ k = 0 := fun k => ⟨fun ⟨_, _, e⟩ => e.symm, fun e => ⟨0, by omega, e.symm⟩⟩
  have b := meas_C hn 301 n 0 1 _ (fun _ => 0) (fun _ => 0) (by omega) (by omega) (hq.same s0.p) ⟨rfl, fun q hq => ?_, fun k hk => ?_⟩ ?_ (by omega)
  · obtain ⟨s1, F1, o1, W1, e1, p1, p2, p3⟩ := b
    refine ⟨s1, W1, e1, s0.tr p1, ?_⟩
    exact MeasP_of ((hq.same s0.p).same p1.p) p2 (by rw [Ex.same p1.p, p1.2.1 3 (by omega) (by omega)]; exact p3)
  · show upd (ga s 13) 0 0 q = nI 0
    have e : q = 0 := by omega
    rw [e]; exact pk_us ..
  · show (_ → upd (fun _ => (-1)) 0 0 k = nI 0) ∧ (_ → upd (fun _ => (-1)) 0 0 k = -1)
    rw [fd k, ud_s]
    by_cases e : k = 0
    · rw [if_pos e]; exact ⟨fun _ => rfl, fun w => absurd e w⟩
    · rw [if_neg e]; exact ⟨fun w => absurd w e, fun _ => rfl⟩
  · exact ⟨hpos, fun _ _ => hpos, fun p q hp hq _ => by omega, ⟨(fd 0).mpr rfl, rfl⟩, fun p q hp hq h0 => by omega, fun p a k' hp hpF _ => by omega, fun q _ => Or.inl rfl, fun q hq => ⟨0, 0, rfl, by omega, by omega, by omega⟩⟩
