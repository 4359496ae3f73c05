/-! mostPair: the commonest pair of a told row -/
def cnt (g : Nat → Nat) : Nat → Nat → Nat
  | 0, _ => 0
  | k + 1, p => cnt g k p + (if g k = p then 1 else 0)
theorem cnt_le (g : Nat → Nat) (p : Nat) : ∀ k, cnt g k p ≤ k
  | 0 => Nat.le_refl 0
  | k + 1 => by
    have := cnt_le g p k
    show cnt g k p + _ ≤ _
    split <;> omega
theorem cnt_pos (g : Nat → Nat) {i : Nat} : ∀ {k : Nat}, i < k → 1 ≤ cnt g k (g i)
  | 0, h => absurd h (by omega)
  | k + 1, h => by
    show 1 ≤ cnt g k (g i) + _
    rcases Nat.lt_or_ge i k with q | q
    · have := cnt_pos g q; omega
    · have e : i = k := by omega
      rw [e, if_pos rfl]; omega
theorem cnt_ex (g : Nat → Nat) {p : Nat} : ∀ {k : Nat}, 1 ≤ cnt g k p → ∃ i, i < k ∧ g i = p
  | 0, h => absurd h (by simp [cnt])
  | k + 1, h => by
    by_cases e : g k = p
    · exact ⟨k, by omega, e⟩
    · have h2 : 1 ≤ cnt g k p + (if g k = p then 1 else 0) := h
      rw [if_neg e] at h2
      obtain ⟨i, hi, he⟩ := cnt_ex g (k := k) h2
      exact ⟨i, by omega, he⟩
theorem cnt_cong (g g2 : Nat → Nat) {p p2 : Nat} : ∀ {k : Nat}, (∀ i, i < k → (g i = p ↔ g2 i = p2)) → cnt g k p = cnt g2 k p2
  | 0, _ => rfl
  | k + 1, h => by
    show cnt g k p + _ = cnt g2 k p2 + _
    rw [cnt_cong g g2 (fun i hi => h i (by omega))]
    have := h k (by omega)
    by_cases e : g k = p
    · rw [if_pos e, if_pos (this.mp e)]
    · rw [if_neg e, if_neg (fun q => e (this.mpr q))]
theorem RowOf.same {σ σ1 τ : SC} {j z : Nat} (h : RowOf σ τ j z) (e : SameC σ σ1) : RowOf σ1 τ j z := by
  refine ⟨h.1, ?_, by rw [e.2.1 19 (by decide)]; exact h.2.2.1, fun i hi => by rw [e.2.2, h.2.2.2 i hi]⟩
  have := h.2.1
  unfold f_X8_hasRow at this ⊢
  rw [e.2.1 20 (by decide)]; exact this
theorem sam16 (σ : SC) (f : Nat → Int32) : SameC σ (sa σ 16 f) := by
  refine ⟨fun _ _ => rfl, fun a ha => ?_, fun _ => rfl⟩
  rw [ga_sa, if_neg (by simp only [List.mem_cons, List.not_mem_nil, or_false] at ha; omega)]
theorem areA_ok {c n j z m : Nat} {σ τ : SC} (hn : 1000000 ≤ n) (h : RelC c σ τ) (hj : j < 8) (hR : RowOf σ τ j z) (hm : m ≤ z) (hm2 : m ≤ 100) (K : Int32 → Option (Int32 × SC)) :
    (f_X10_areActions n σ j (nI m) = some 1 ∧ LX12_mostPair_49 τ (nI j) (nI m) K n 1 0 = K 1 ∧ ∀ i, i < m → inR (gl σ j i).toInt32 c) ∨
    (f_X10_areActions n σ j (nI m) = some 0 ∧ LX12_mostPair_49 τ (nI j) (nI m) K n 1 0 = K 0) := by
  have h24 := h.1.1
  unfold f_X10_areActions
  have key : ∀ (d f f2 i : Nat), i + d = m → d < f → d + 1 < f2 → (∀ k, k < i → inR (gl σ j k).toInt32 c) →
      (LX10_areActions_2 σ j (nI m) (fun _ => some 1) f (nI i) = some 1 ∧ LX12_mostPair_49 τ (nI j) (nI m) K f2 1 (nI i) = K 1 ∧ ∀ i, i < m → inR (gl σ j i).toInt32 c) ∨
      (LX10_areActions_2 σ j (nI m) (fun _ => some 1) f (nI i) = some 0 ∧ LX12_mostPair_49 τ (nI j) (nI m) K f2 1 (nI i) = K 0) := by
    intro d
    induction d with
    | zero =>
      intro f f2 i hi hf hf2 hk
      obtain ⟨f, rfl⟩ : ∃ f', f = f' + 1 := ⟨f - 1, by omega⟩
      obtain ⟨f2, rfl⟩ : ∃ f', f2 = f' + 1 := ⟨f2 - 1, by omega⟩
      rw [LX10_areActions_2, LX12_mostPair_49, if_pos (nI_le (by omega) (by omega)), if_pos (nI_le (by omega) (by omega))]
      exact Or.inl ⟨rfl, rfl, fun k hk' => hk k (by omega)⟩
    | succ d ih =>
      intro f f2 i hi hf hf2 hk
      obtain ⟨f, rfl⟩ : ∃ f', f = f' + 1 := ⟨f - 1, by omega⟩
      obtain ⟨f2, rfl⟩ : ∃ f', f2 = f' + 1 := ⟨f2 - 1, by omega⟩
      rw [LX10_areActions_2, LX12_mostPair_49, if_neg (nI_ge (by omega) (by omega)), if_neg (nI_ge (by omega) (by omega)), if_neg (show ¬ (100 : Int32) ≤ nI i from nI_ge (b := 100) (by omega) (by omega)), if_neg one_ne, tell_C hR (by omega), bd_e, tell_M hR hj (by omega), bd_e]
      rcases Classical.em (inR (gl σ j i).toInt32 c) with ha | ha
      · rw [has_1 h.1.2.1 h24 ha, isAct_1 h.1.2.2.1 h24 ha, if_neg one_ne, bd_e, lt_e, lt_e, nI_p1]
        refine ih f f2 (i + 1) (by omega) (by omega) (by omega) (fun k hk' => ?_)
        rcases Nat.lt_or_ge k i with q | q
        · exact hk k q
        · rw [show k = i by omega]; exact ha
      · rw [has_0 h.1.2.1 h24 ha, isAct_0 h.1.2.2.1 h24 ha, if_pos rfl, bd_e, lt_e]
        obtain ⟨f2, rfl⟩ : ∃ f', f2 = f' + 1 := ⟨f2 - 1, by omega⟩
        refine Or.inr ⟨rfl, ?_⟩
        rw [LX12_mostPair_49, if_pos rfl]
        split <;> rfl
  exact key m n n 0 (by omega) (by omega) (by omega) (fun k hk => absurd hk (by omega))
/-- the class's counting -/
theorem pairC_ok {n j z m : Nat} {σ τ : SC} {u : Nat → Nat} (hn : 1000000 ≤ n) (hR : RowOf σ τ j z) (hm : m ≤ z) (hm2 : m ≤ 100) (h2 : 2 ≤ m) (hu : ∀ i, i < m → u i < 24 ∧ (gl σ j i).toInt32 = nI (u i)) :
    ∃ P σ1, f_X10_commonestPair n σ j (nI m) = some (nI P, σ1) ∧ SameC σ σ1 ∧ P < 576 ∧
      (∀ q, q < 576 → cnt (fun i => 24 * u i + u (i + 1)) (m - 1) q ≤ cnt (fun i => 24 * u i + u (i + 1)) (m - 1) P) ∧ (∀ q, q < P → cnt (fun i => 24 * u i + u (i + 1)) (m - 1) q < cnt (fun i => 24 * u i + u (i + 1)) (m - 1) P) := by
  unfold f_X10_commonestPair
  rw [lt_e]
  generalize hG : (fun i => 24 * u i + u (i + 1)) = G
  have hGi : ∀ i, G i = 24 * u i + u (i + 1) := fun i => by rw [← hG]
  have b1 := loop_up (fun f i s => LX10_commonestPair_10 j (nI m) (fun σ12 => LX10_commonestPair_76 σ12 (fun w17 => some (w17, σ12)) n 0 1) f s (nI i))
    (fun σ12 => LX10_commonestPair_76 σ12 (fun w17 => some (w17, σ12)) n 0 1) (fun i s => sa s 16 (upd (ga s 16) (G (i - 1)) (ga s 16 (G (i - 1)) + 1))) m
    (fun i s => 1 ≤ i ∧ SameC σ s ∧ ∀ q, q < 576 → ga s 16 q = nI (cnt G (i - 1) q)) ?_ ?_ (m - 1) n 1 (sa σ 16 (fun _ => 0)) (by omega) (by omega) ⟨by omega, sam16 σ _, fun q _ => rfl⟩
  · obtain ⟨e1, _, hs, hc⟩ := b1
    generalize itf (fun i s => sa s 16 (upd (ga s 16) (G (i - 1)) (ga s 16 (G (i - 1)) + 1))) 1 (m - 1) (sa σ 16 (fun _ => 0)) = s at e1 hs hc
    have e1' : LX10_commonestPair_10 j (nI m) (fun σ12 => LX10_commonestPair_76 σ12 (fun w17 => some (w17, σ12)) n 0 1) n (sa σ 16 (fun _ => 0)) 1 = LX10_commonestPair_76 s (fun w17 => some (w17, s)) n 0 1 := e1
    rw [e1']
    have hle : ∀ q, cnt G (m - 1) q < 2 ^ 31 := fun q => by have := cnt_le G q (m - 1); omega
    have b2 := loop_up (fun f i (P : Nat) => LX10_commonestPair_76 s (fun w17 => some (w17, s)) f (nI P) (nI i)) (fun P => some (nI P, s)) (fun i P => if cnt G (m - 1) i ≤ cnt G (m - 1) P then P else i) 576
      (fun i P => P < i ∧ (∀ q, q < i → cnt G (m - 1) q ≤ cnt G (m - 1) P) ∧ ∀ q, q < P → cnt G (m - 1) q < cnt G (m - 1) P) ?_ ?_ 575 n 1 0 (by omega) (by omega)
      ⟨by omega, fun q hq => by rw [show q = 0 by omega]; exact Nat.le_refl _, fun q hq => absurd hq (by omega)⟩
    · obtain ⟨e2, p1, p2, p3⟩ := b2
      exact ⟨_, s, e2, hs, p1, p2, p3⟩
    · intro f P hP
      show LX10_commonestPair_76 s (fun w17 => some (w17, s)) (f + 1) (nI P) (nI 576) = _
      rw [LX10_commonestPair_76, if_pos (show (576 : Int32) ≤ nI 576 from nI_le (a := 576) (by omega) (by omega))]
    · intro f i P hi hP
      obtain ⟨p1, p2, p3⟩ := hP
      have st : LX10_commonestPair_76 s (fun w17 => some (w17, s)) (f + 1) (nI P) (nI i) = LX10_commonestPair_76 s (fun w17 => some (w17, s)) f (nI (if cnt G (m - 1) i ≤ cnt G (m - 1) P then P else i)) (nI (i + 1)) := by
        rw [LX10_commonestPair_76, if_neg (show ¬ (576 : Int32) ≤ nI i from nI_ge (b := 576) hi (by omega)), ld_n i rfl hi (by omega), ld_n P rfl (by omega) (by omega), hc i hi, hc P (by omega), lt_e, lt_e, nI_p1]
        by_cases q : cnt G (m - 1) i ≤ cnt G (m - 1) P
        · rw [if_pos q, if_pos (nI_le q (hle P))]
        · rw [if_neg q, if_neg (nI_ge (by omega) (hle i))]
      refine ⟨st, ?_⟩
      by_cases q : cnt G (m - 1) i ≤ cnt G (m - 1) P
      · rw [if_pos q]
        refine ⟨by omega, fun q' hq => ?_, p3⟩
        rcases Nat.lt_or_ge q' i with w | w
        · exact p2 q' w
        · rw [show q' = i by omega]; exact q
      · rw [if_neg q]
        refine ⟨by omega, fun q' hq => ?_, fun q' hq => ?_⟩
        · rcases Nat.lt_or_ge q' i with w | w
          · have := p2 q' w; omega
          · rw [show q' = i by omega]; exact Nat.le_refl _
        · have := p2 q' hq; omega
  · intro f s hs
    show LX10_commonestPair_10 j (nI m) _ (f + 1) s (nI m) = _
    rw [LX10_commonestPair_10, if_pos (nI_le (Nat.le_refl m) (by omega))]
  · intro f i s hi hI
    obtain ⟨i1, hs, hc⟩ := hI
    obtain ⟨i, rfl⟩ : ∃ i', i = i' + 1 := ⟨i - 1, by omega⟩
    have hRs := hR.same hs
    have u1 := hu i (by omega)
    have u2 := hu (i + 1) (by omega)
    have g1 : G i < 576 := by rw [hGi]; omega
    have g2 := hGi i
    constructor
    · show LX10_commonestPair_10 j (nI m) _ (f + 1) s (nI (i + 1)) = _
      rw [LX10_commonestPair_10, if_neg (nI_ge hi (by omega)), if_neg (show ¬ (100 : Int32) ≤ nI (i + 1) from nI_ge (b := 100) (by omega) (by omega)), nI_pred, tell_C hRs (by omega), bd_e, tell_C hRs (by omega), bd_e, hs.2.2, u1.2, u2.2, lt_e,
        show nI (u i) * 24 + nI (u (i + 1)) = nI (G i) by rw [show (24 : Int32) = nI 24 from rfl, pk_mul, nI_add, g2, Nat.mul_comm], if_neg (nI_pos (by omega)), if_neg (show ¬ (576 : Int32) ≤ nI (G i) from nI_ge (b := 576) g1 (by omega)), ld_n (G i) rfl g1 (by omega), ck_n (G i) rfl g1 (by omega), lt_e, lt_e, nI_p1, nI_clamp (by omega)]
      rfl
    · refine ⟨by omega, hs.tr (sam16 s _), fun q hq => ?_⟩
      show (upd (ga s 16) (G i) (ga s 16 (G i) + 1)) q = nI (cnt G i q + if G i = q then 1 else 0)
      have hc' : ∀ q, q < 576 → ga s 16 q = nI (cnt G i q) := hc
      rw [ud_s]
      by_cases e : q = G i
      · subst e; rw [if_pos rfl, if_pos rfl, hc' _ g1, nI_p1]
      · rw [if_neg e, if_neg (fun w => e w.symm), hc' q hq]; rfl
/-- the reference's -/
theorem pairs_M {n j z m : Nat} {σ τ : SC} {u : Nat → Nat} (hn : 1000000 ≤ n) (hj : j < 8) (hR : RowOf σ τ j z) (hm : m ≤ z) (hm2 : m ≤ 100) (h2 : 2 ≤ m) (hu : ∀ i, i < m → u i < 24 ∧ (gl σ j i).toInt32 = nI (u i)) (p : Nat) (hp : p < 2 ^ 31) :
    f_X12_pairs n τ (nI j) (nI m) (nI p) = some (nI (cnt (fun i => 100 * u i + u (i + 1)) (m - 1) p)) := by
  unfold f_X12_pairs
  generalize hG : (fun i => 100 * u i + u (i + 1)) = G
  have hGi : ∀ i, G i = 100 * u i + u (i + 1) := fun i => by rw [← hG]
  have b := loop_fo (L := fun f i (x : Nat) => LX12_pairs_6 τ (nI j) (nI m) (nI p) (fun w9 => some w9) f (nI x) (nI i)) (K := fun x => some (nI x)) (g := fun i x => x + if G i = p then 1 else 0) (c := m - 1) (n := n) (x := 0) (fun i x => x = cnt G i p) (by omega) rfl ?_ ?_
  · rw [← b.2]; exact b.1
  · intro f x hx
    show LX12_pairs_6 τ (nI j) (nI m) (nI p) _ (f + 1) (nI x) (nI (m - 1)) = _
    rw [LX12_pairs_6, nI_p1, if_pos (nI_le (by omega) (by omega))]
  · intro f i x hi hx
    have u1 := hu i (by omega)
    have u2 := hu (i + 1) (by omega)
    have g2 := hGi i
    refine ⟨?_, by show x + _ = cnt G i p + _; rw [hx]⟩
    show LX12_pairs_6 τ (nI j) (nI m) (nI p) _ (f + 1) (nI x) (nI i) = _
    rw [LX12_pairs_6, nI_p1, if_neg (nI_ge (by omega) (by omega)), tell_M hR hj (by omega), bd_e, tell_M hR hj (by omega), bd_e, u1.2, u2.2,
      show (100 : Int32) * nI (u i) + nI (u (i + 1)) = nI (G i) by rw [show (100 : Int32) = nI 100 from rfl, pk_mul, nI_add, g2], lt_e, lt_e, nI_p1]
    by_cases e : G i = p
    · rw [if_pos e, if_pos (congrArg nI e)]
    · rw [if_neg e, if_neg (nI_ne e (by omega) hp)]
      simp only [lt_e, nI_p1, Int32.add_zero, Nat.add_zero]
theorem pairM_ok {n j z m : Nat} {σ τ : SC} {u : Nat → Nat} (hn : 1000000 ≤ n) (hj : j < 8) (hR : RowOf σ τ j z) (hm : m ≤ z) (hm2 : m ≤ 100) (h2 : 2 ≤ m) (hu : ∀ i, i < m → u i < 24 ∧ (gl σ j i).toInt32 = nI (u i)) (K : Int32 → Option (Int32 × SC)) :
    ∃ w, w < m - 1 ∧ LX12_mostPair_97 n τ (nI j) (nI m) K n (-1) 0 = K (nI (100 * u w + u (w + 1))) ∧
      ∀ i, i < m - 1 → cnt (fun i => 100 * u i + u (i + 1)) (m - 1) (100 * u i + u (i + 1)) < cnt (fun i => 100 * u i + u (i + 1)) (m - 1) (100 * u w + u (w + 1)) ∨
        (cnt (fun i => 100 * u i + u (i + 1)) (m - 1) (100 * u i + u (i + 1)) = cnt (fun i => 100 * u i + u (i + 1)) (m - 1) (100 * u w + u (w + 1)) ∧ 100 * u w + u (w + 1) ≤ 100 * u i + u (i + 1)) := by
  have hp := fun p hq => pairs_M hn hj hR hm hm2 h2 hu p hq
  generalize hG : (fun i => 100 * u i + u (i + 1)) = G at hp ⊢
  have hGi : ∀ i, 100 * u i + u (i + 1) = G i := fun i => by rw [← hG]
  simp only [hGi]
  have hGs : ∀ i, i < m - 1 → G i < 2 ^ 30 := fun i hi => by
    have := hu i (by omega); have := hu (i + 1) (by omega); rw [← hGi]; omega
  have hcl : ∀ q, cnt G (m - 1) q < 2 ^ 30 := fun q => by have := cnt_le G q (m - 1); omega
  have hv : ∀ i, i < m - 1 → f_X12_told τ (nI j) (nI i) = some (nI (u i)) ∧ f_X12_told τ (nI j) (nI (i + 1)) = some (nI (u (i + 1))) ∧ (100 : Int32) * nI (u i) + nI (u (i + 1)) = nI (G i) := by
    intro i hi
    refine ⟨by rw [tell_M hR hj (by omega), (hu i (by omega)).2], by rw [tell_M hR hj (by omega), (hu (i + 1) (by omega)).2], ?_⟩
    rw [show (100 : Int32) = nI 100 from rfl, pk_mul, nI_add, hGi]
  obtain ⟨n', rfl⟩ : ∃ n', n = n' + 1 := ⟨n - 1, by omega⟩
  have first : LX12_mostPair_97 (n' + 1) τ (nI j) (nI m) K (n' + 1) (-1) 0 = LX12_mostPair_97 (n' + 1) τ (nI j) (nI m) K n' (nI (G 0)) (nI 1) := by
    have h0 := hv 0 (by omega)
    have c1 := cnt_pos G (i := 0) (k := m - 1) (by omega)
    rw [LX12_mostPair_97, show (0 : Int32) + 1 = nI 1 from rfl, if_neg (nI_ge (by omega) (by omega)), show f_X12_told τ (nI j) 0 = _ from h0.1, bd_e, show f_X12_told τ (nI j) (nI 1) = _ from h0.2.1, bd_e, lt_e, h0.2.2, hp _ (by have := hGs 0 (by omega); omega), bd_e, jn_e, if_pos rfl]
    show (if (0 : Int32) < nI (cnt G (m - 1) (G 0)) then _ else _) = _
    rw [if_pos (show (0 : Int32) < nI (cnt G (m - 1) (G 0)) from nI_lt (a := 0) (by omega) (by have := hcl (G 0); omega)), lt_e]
  rw [first]
  have b := loop_up (fun f i (w : Nat) => LX12_mostPair_97 (n' + 1) τ (nI j) (nI m) K f (nI (G w)) (nI i)) (fun w => K (nI (G w)))
    (fun i w => if cnt G (m - 1) (G w) < cnt G (m - 1) (G i) then i else if cnt G (m - 1) (G i) = cnt G (m - 1) (G w) then if G w ≤ G i then w else i else w) (m - 1)
    (fun i w => w < i ∧ ∀ k, k < i → cnt G (m - 1) (G k) < cnt G (m - 1) (G w) ∨ (cnt G (m - 1) (G k) = cnt G (m - 1) (G w) ∧ G w ≤ G k)) ?_ ?_ (m - 2) n' 1 0 (by omega) (by omega)
    ⟨by omega, fun k hk => by rw [show k = 0 by omega]; exact Or.inr ⟨rfl, Nat.le_refl _⟩⟩
  · exact ⟨_, b.2.1, b.1, b.2.2⟩
  · intro f w hw
    show LX12_mostPair_97 (n' + 1) τ (nI j) (nI m) K (f + 1) (nI (G w)) (nI (m - 1)) = _
    rw [LX12_mostPair_97, nI_p1, if_pos (nI_le (by omega) (by omega))]
  · intro f i w hi hI
    obtain ⟨hw, hk⟩ := hI
    have hvi := hv i hi
    have gs := hGs i hi
    have gw := hGs w (by omega)
    have ci := hcl (G i)
    have cw := hcl (G w)
    constructor
    · show LX12_mostPair_97 (n' + 1) τ (nI j) (nI m) K (f + 1) (nI (G w)) (nI i) = LX12_mostPair_97 (n' + 1) τ (nI j) (nI m) K f (nI (G _)) (nI (i + 1))
      rw [LX12_mostPair_97, nI_p1, if_neg (nI_ge (by omega) (by omega)), hvi.1, bd_e, hvi.2.1, bd_e, lt_e, hvi.2.2, hp _ (by omega), bd_e, jn_e, if_neg (nI_nm1 (by omega)), hp _ (by omega), bd_e]
      show (if nI (cnt G (m - 1) (G w)) < nI (cnt G (m - 1) (G i)) then _ else _) = _
      simp only [lt_e, nI_p1]
      by_cases q1 : cnt G (m - 1) (G w) < cnt G (m - 1) (G i)
      · rw [if_pos q1, if_pos (nI_lt q1 (by omega))]
      · rw [if_neg q1, if_neg (nI_nlt (by omega) (by omega))]
        by_cases q2 : cnt G (m - 1) (G i) = cnt G (m - 1) (G w)
        · rw [if_pos q2, if_pos (congrArg nI q2)]
          by_cases q3 : G w ≤ G i
          · rw [if_pos q3, if_pos (nI_le q3 (by omega))]
          · rw [if_neg q3, if_neg (nI_ge (by omega) (by omega))]
        · rw [if_neg q2, if_neg (nI_ne q2 (by omega) (by omega))]
    · by_cases q1 : cnt G (m - 1) (G w) < cnt G (m - 1) (G i)
      · rw [if_pos q1]
        refine ⟨by omega, fun k hk' => ?_⟩
        rcases Nat.lt_or_ge k i with w2 | w2
        · have := hk k w2; left; omega
        · rw [show k = i by omega]; exact Or.inr ⟨rfl, Nat.le_refl _⟩
      · rw [if_neg q1]
        by_cases q2 : cnt G (m - 1) (G i) = cnt G (m - 1) (G w)
        · rw [if_pos q2]
          by_cases q3 : G w ≤ G i
          · rw [if_pos q3]
            refine ⟨by omega, fun k hk' => ?_⟩
            rcases Nat.lt_or_ge k i with w2 | w2
            · exact hk k w2
            · rw [show k = i by omega]; exact Or.inr ⟨q2, q3⟩
          · rw [if_neg q3]
            refine ⟨by omega, fun k hk' => ?_⟩
            rcases Nat.lt_or_ge k i with w2 | w2
            · have := hk k w2; omega
            · rw [show k = i by omega]; exact Or.inr ⟨rfl, Nat.le_refl _⟩
        · rw [if_neg q2]
          refine ⟨by omega, fun k hk' => ?_⟩
          rcases Nat.lt_or_ge k i with w2 | w2
          · exact hk k w2
          · rw [show k = i by omega]; left; omega
theorem ag_mostPair_ok {n : Nat} (hn : 1000000 ≤ n) : ag_mostPair n Rel := by
  rintro σ τ a1 a2 ⟨c, h⟩
  have h24 := h.1.1
  unfold f_X11_mostPair f_X12_mostPair
  simp only [jn_e]
  rcases told_ok h a1 a2 with ⟨j, z, m, hj, rfl, rfl, hm, hR, e1, e2⟩ | ⟨k, hk, e1, e2⟩
  · rw [e1, e2, bd_e, bd_e, if_pos rfl]
    have hz := hR.1
    have e0 : ∀ {β : Type} (A B : β), (if (if m ≤ 100 then (0 : Int32) else -6) = 0 then A else if (if m ≤ 100 then (0 : Int32) else -6) = -6 then A else B) = A := by
      intro β A B
      by_cases q : m ≤ 100
      · rw [if_pos q, if_pos rfl]
      · rw [if_neg q, if_neg (by decide), if_pos rfl]
    rw [e0]
    by_cases q2 : 2 ≤ m
    · rw [if_pos (show (2 : Int32) ≤ nI m from nI_le (a := 2) q2 (by omega)), if_pos (show (2 : Int32) ≤ nI m from nI_le (a := 2) q2 (by omega))]
      by_cases q : m ≤ 100
      · rw [if_neg (show ¬ (100 : Int32) < nI m from nI_nlt (b := m) (a := 100) q (by omega)), if_pos q, if_pos rfl, ld_n j rfl hj (by omega), ld_n j rfl hj (by omega)]
        rcases areA_ok hn h hj hR hm q (fun w11 => if w11 = 0 then bd2 (f_X12_refused τ (-6)) (fun v30 σ29 => some (v30, σ29)) else LX12_mostPair_97 n τ (nI j) (nI m) (fun w27 => some (w27, τ)) n (-1) 0) with ⟨g1, g2, g3⟩ | ⟨g1, g2⟩
        · rw [g1, g2, bd_e, if_neg one_ne, if_neg one_ne]
          obtain ⟨u, hu⟩ : ∃ u : Nat → Nat, ∀ i, i < m → u i < 24 ∧ (gl σ j i).toInt32 = nI (u i) := by
            refine ⟨fun i => (gl σ j i).toInt32.toNatClampNeg, fun i hi => ?_⟩
            obtain ⟨a, ha, e⟩ := g3 i hi
            show (gl σ j i).toInt32.toNatClampNeg < 24 ∧ (gl σ j i).toInt32 = nI ((gl σ j i).toInt32.toNatClampNeg)
            rw [e, nI_clamp (by omega)]
            exact ⟨by omega, rfl⟩
          obtain ⟨P, σ1, k1, k2, k3, k4, k5⟩ := pairC_ok hn hR hm q q2 hu
          obtain ⟨w, w1, w2, w3⟩ := pairM_ok hn hj hR hm q q2 hu (fun w27 => some (w27, τ))
          have cc : ∀ i, i < m - 1 → cnt (fun i => 100 * u i + u (i + 1)) (m - 1) (100 * u i + u (i + 1)) = cnt (fun i => 24 * u i + u (i + 1)) (m - 1) (24 * u i + u (i + 1)) := by
            intro i hi
            refine cnt_cong _ _ (fun k hk => ?_)
            have h1 := hu i (by omega); have h2 := hu (i + 1) (by omega); have h3 := hu k (by omega); have h4 := hu (k + 1) (by omega)
            show 100 * u k + u (k + 1) = _ ↔ 24 * u k + u (k + 1) = _
            omega
          have hp : 24 * u w + u (w + 1) = P := by
            have h1 := hu w (by omega); have h2 := hu (w + 1) (by omega)
            have h0 := hu 0 (by omega); have h01 := hu 1 (by omega)
            have c0 := cnt_pos (fun i => 24 * u i + u (i + 1)) (i := 0) (k := m - 1) (by omega)
            have c1 := k4 (24 * u 0 + u 1) (by omega)
            obtain ⟨i, hi, ei⟩ := cnt_ex (fun i => 24 * u i + u (i + 1)) (p := P) (k := m - 1) (Nat.le_trans c0 c1)
            have ei : 24 * u i + u (i + 1) = P := ei
            have h3 := hu i (by omega); have h4 := hu (i + 1) (by omega)
            have c2 := w3 i hi
            rw [cc i hi, cc w w1, ei] at c2
            have c3 := k4 (24 * u w + u (w + 1)) (by omega)
            rcases Nat.lt_or_ge (24 * u w + u (w + 1)) P with l | l
            · have := k5 _ l
              omega
            · omega
          have h1 := hu w (by omega); have h2 := hu (w + 1) (by omega)
          rw [k1, w2, bd2_e, show (24 : Int32) = nI 24 from rfl, pk_rem (by omega) (by omega) (by omega), pk_div (by omega) (by omega) (by omega), show (100 : Int32) = nI 100 from rfl, pk_mul, nI_add, show P / 24 = u w by omega, show P % 24 = u (w + 1) by omega]
          exact ⟨_, _, _, rfl, rfl, c, h.sameC k2⟩
        · rw [g1, g2, bd_e, if_pos rfl, if_pos rfl, RC5, RM5]; exact ⟨_, _, _, rfl, rfl, c, h.ref 5⟩
      · rw [if_pos (show (100 : Int32) < nI m from nI_lt (a := 100) (by omega) (by omega)), if_neg q, if_neg (show ¬ (-6 : Int32) = 0 by decide)]
        obtain ⟨n, rfl⟩ : ∃ n', n = n' + 1 := ⟨n - 1, by omega⟩
        rw [LX12_mostPair_49, if_neg (show ¬ nI m ≤ 0 from nI_nle (by omega) (by omega)), if_pos rfl, if_pos rfl, RC5, RM5]
        exact ⟨_, _, _, rfl, rfl, c, h.ref 5⟩
    · rw [if_neg (show ¬ (2 : Int32) ≤ nI m from nI_ge (b := 2) (by omega) (by omega)), if_neg (show ¬ (2 : Int32) ≤ nI m from nI_ge (b := 2) (by omega) (by omega)), RC4, RM4]
      exact ⟨_, _, _, rfl, rfl, c, h.ref 4⟩
  · rw [e1, e2, bd_e, bd_e, if_neg (neg_ne hk), if_neg (neg_ne hk), if_neg (neg_ne6 hk), refuse_C σ k (by omega) rfl, refused_M τ k (by omega) rfl]
    exact ⟨_, _, _, rfl, rfl, c, h.ref k⟩
