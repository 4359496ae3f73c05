/-! LEFTS: the reference's weights to the goal; its plan -/
def SwL (c N : Nat) (nx : Nat → Nat → Nat) (w : Nat → Nat) (G : Nat → Prop) (l0 : Nat → Nat) (P : Nat → Nat → Prop) (l : Nat → Nat) (y : Int32) : Prop :=
  (∀ k, k < N → l k ≤ 100000000 ∧ (G k → l k = 0) ∧ (l k = 100000000 ∨ (G k ∧ l k = 0) ∨ ∃ a, a < c ∧ l (nx k a) + w a ≤ l k)) ∧
  ((y = 0 ∧ (∀ k, k < N → l k = l0 k) ∧ ∀ k a, P k a → k < N → a < c → l0 k ≤ l0 (nx k a) + w a) ∨ (y = 1 ∧ sm l N < sm l0 N))
def Pr (K A k a : Nat) : Prop := K < k ∨ (k = K ∧ a < A)
theorem leftRow_M {c N K0 : Nat} {nx : Nat → Nat → Nat} {cc w l0 : Nat → Nat} {G : Nat → Prop} (hK : K0 < N) (hw : ∀ a, w a = 1000 * cc a + 1) (K : SC → Int32 → Option SC) :
    ∀ (d f A : Nat) (s : SC) (l : Nat → Nat) (y : Int32), A + d = c → d < f → RG c N nx cc s → FVl 10 N s l → SwL c N nx w G l0 (Pr K0 A) l y →
    ∃ s' l' y', LX12_lefts_69 (nI K0) K f s y (nI A) = K s' y' ∧ SamF 10 s s' ∧ FVl 10 N s' l' ∧ SwL c N nx w G l0 (Pr K0 c) l' y' := by
  intro d
  induction d with
  | zero =>
    intro f A s l y hA hf hg hv hs
    obtain ⟨f, rfl⟩ : ∃ f', f = f' + 1 := ⟨f - 1, by omega⟩
    have h24 := hg.2.2.2.1
    have e : A = c := by omega
    subst e
    refine ⟨s, l, y, ?_, SamF.rf 10 s, hv, hs⟩
    rw [LX12_lefts_69, ld172, hg.2.2.2.2.1, if_pos (nI_le (Nat.le_refl _) (by omega))]
  | succ d ih =>
    intro f A s l y hA hf hg hv hs
    obtain ⟨f, rfl⟩ : ∃ f', f = f' + 1 := ⟨f - 1, by omega⟩
    have hg' := hg
    obtain ⟨g8, gN, gpos, h24, g172, gnx, gcc⟩ := hg'
    have hs' := hs
    obtain ⟨s1, s3⟩ := hs'
    obtain ⟨n1, n2⟩ := gnx K0 A hK (by omega)
    obtain ⟨c1, c2, c3⟩ := gcc A (by omega)
    have b1 := (s1 K0 hK).1
    have b2 := (s1 (nx K0 A) n1).1
    have hwA := hw A
    have e13 : nI (l (nx K0 A)) + 1000 * nI (cc A) + 1 = nI (l (nx K0 A) + w A) := by rw [show (1000 : Int32) = nI 1000 from rfl, pk_mul, nI_add, nI_p1, hwA]; rfl
    rw [LX12_lefts_69, ld172, g172, if_neg (nI_ge (by omega) (by omega)), ld24n (by omega) (by omega), n2, ld_n (nx K0 A) rfl (by omega) (by omega), hv _ n1, ld72n (by omega), c1, e13, lt_e, ld_n K0 rfl (by omega) (by omega), hv K0 hK]
    simp only [jn_e, lt_e]
    by_cases q : l K0 ≤ l (nx K0 A) + w A
    · rw [if_pos (nI_le q (by omega))]
      simp only [↓reduceIte]
      rw [ld_n K0 rfl (by omega) (by omega), ck_n K0 rfl (by omega) (by omega), nI_clamp (by omega), hv _ hK]
      have e9 := SamF.a 10 s (upd (ga s 10) K0 (nI (l K0)))
      have hv9 : FVl 10 N (sa s 10 (upd (ga s 10) K0 (nI (l K0)))) l := by
        intro k hk
        show upd (ga s 10) K0 (nI (l K0)) k = _
        rw [ud_s]
        by_cases e : k = K0
        · rw [if_pos e, e]
        · rw [if_neg e]; exact hv k hk
      have hsw : SwL c N nx w G l0 (Pr K0 (A + 1)) l y := by
        refine ⟨s1, s3.imp_left (fun ⟨z1, z2, z3⟩ => ⟨z1, z2, fun k a hka hk ha => ?_⟩)⟩
        by_cases e : k = K0 ∧ a = A
        · rw [e.1, e.2, ← z2 K0 hK, ← z2 _ n1]; exact q
        · exact z3 k a (by unfold Pr at hka ⊢; omega) hk ha
      obtain ⟨s', l', y', r1, r2, r3, r4⟩ := ih f (A + 1) (sa s 10 (upd (ga s 10) K0 (nI (l K0)))) l y (by omega) (by omega) (hg.same e9 (by omega)) hv9 hsw
      refine ⟨s', l', y', ?_, e9.tr r2, r3, r4⟩
      rw [nI_p1]
      rcases s3 with ⟨z, _⟩ | ⟨z, _⟩
      · rw [z, if_pos rfl]; rw [z] at r1; exact r1
      · rw [z, if_neg one_ne]; rw [z] at r1; exact r1
    · rw [if_neg (nI_ge (by omega) (by omega))]
      simp only [one_ne, ↓reduceIte]
      rw [ck_n K0 rfl (by omega) (by omega), nI_clamp (by omega)]
      have e9 := SamF.a 10 s (upd (ga s 10) K0 (nI (l (nx K0 A) + w A)))
      have hv9 : FVl 10 N (sa s 10 (upd (ga s 10) K0 (nI (l (nx K0 A) + w A)))) (fun k => if k = K0 then l (nx K0 A) + w A else l k) := by
        intro k hk
        show upd (ga s 10) K0 (nI (l (nx K0 A) + w A)) k = nI (if k = K0 then _ else _)
        rw [ud_s]
        by_cases e : k = K0
        · rw [if_pos e, if_pos e]
        · rw [if_neg e, if_neg e]; exact hv k hk
      have hle : ∀ k, (if k = K0 then l (nx K0 A) + w A else l k) ≤ l k := by
        intro k
        by_cases e : k = K0
        · rw [if_pos e, e]; omega
        · rw [if_neg e]; exact Nat.le_refl _
      have hdec : sm (fun k => if k = K0 then l (nx K0 A) + w A else l k) N < sm l N := sm_lt K0 (fun k _ => hle k) hK (by show (if K0 = K0 then _ else _) < _; rw [if_pos rfl]; omega)
      have hsw : SwL c N nx w G l0 (Pr K0 (A + 1)) (fun k => if k = K0 then l (nx K0 A) + w A else l k) 1 := by
        refine ⟨fun k hk => ?_, Or.inr ⟨rfl, ?_⟩⟩
        · obtain ⟨t1, t2, t3⟩ := s1 k hk
          refine ⟨Nat.le_trans (hle k) t1, fun hG => ?_, ?_⟩
          · have h1 := hle k
            have h2 := t2 hG
            show (if k = K0 then l (nx K0 A) + w A else l k) = 0
            omega
          · show (if k = K0 then l (nx K0 A) + w A else l k) = 100000000 ∨ (G k ∧ (if k = K0 then l (nx K0 A) + w A else l k) = 0) ∨ ∃ a, a < c ∧ (if nx k a = K0 then l (nx K0 A) + w A else l (nx k a)) + w a ≤ (if k = K0 then l (nx K0 A) + w A else l k)
            by_cases e : k = K0
            · right; right
              refine ⟨A, by omega, ?_⟩
              rw [e, if_pos rfl]
              have := hle (nx K0 A)
              exact Nat.add_le_add_right this _
            · rw [if_neg e]
              rcases t3 with u | u | ⟨a, u1, u2⟩
              · exact Or.inl u
              · exact Or.inr (Or.inl u)
              · exact Or.inr (Or.inr ⟨a, u1, Nat.le_trans (Nat.add_le_add_right (hle (nx k a)) _) u2⟩)
        · rcases s3 with ⟨_, z, _⟩ | ⟨_, z⟩
          · rw [← sm_eq z]; exact hdec
          · omega
      obtain ⟨s', l', y', r1, r2, r3, r4⟩ := ih f (A + 1) (sa s 10 (upd (ga s 10) K0 (nI (l (nx K0 A) + w A)))) _ 1 (by omega) (by omega) (hg.same e9 (by omega)) hv9 hsw
      refine ⟨s', l', y', ?_, e9.tr r2, r3, r4⟩
      rw [nI_p1]
      rcases s3 with ⟨z, _⟩ | ⟨z, _⟩
      · rw [z, if_pos rfl]; exact r1
      · rw [z, if_neg one_ne]; exact r1
theorem SwL.mono {c N : Nat} {nx : Nat → Nat → Nat} {w l0 l : Nat → Nat} {G : Nat → Prop} {P P2 : Nat → Nat → Prop} {y : Int32} (h : SwL c N nx w G l0 P l y) (hp : ∀ k a, a < c → P2 k a → P k a) : SwL c N nx w G l0 P2 l y :=
  ⟨h.1, h.2.imp_left (fun ⟨z1, z2, z3⟩ => ⟨z1, z2, fun k a hka hk ha => z3 k a (hp k a ha hka) hk ha⟩)⟩
theorem leftSweep_M {n c N : Nat} {nx : Nat → Nat → Nat} {cc w l0 : Nat → Nat} {G : Nat → Prop} (hn : 1000000 ≤ n) (hw : ∀ a, w a = 1000 * cc a + 1) (K : SC → Int32 → Option SC) :
    ∀ (m f : Nat) (s : SC) (l : Nat → Nat) (y : Int32), m ≤ N → m < f → RG c N nx cc s → FVl 10 N s l → SwL c N nx w G l0 (fun k _ => m ≤ k) l y →
    ∃ s' l' y', LX12_lefts_63 n K f s y (nI m + (-1)) = K s' y' ∧ SamF 10 s s' ∧ FVl 10 N s' l' ∧ SwL c N nx w G l0 (fun _ _ => True) l' y' := by
  intro m
  induction m with
  | zero =>
    intro f s l y hm hf hg hv hs
    obtain ⟨f, rfl⟩ : ∃ f', f = f' + 1 := ⟨f - 1, by omega⟩
    refine ⟨s, l, y, ?_, SamF.rf 10 s, hv, hs.mono (fun k _ _ _ => Nat.zero_le k)⟩
    rw [LX12_lefts_63, if_pos (show nI 0 + (-1) < 0 by decide)]
  | succ m ih =>
    intro f s l y hm hf hg hv hs
    obtain ⟨f, rfl⟩ : ∃ f', f = f' + 1 := ⟨f - 1, by omega⟩
    have gN := hg.2.1
    have h24 := hg.2.2.2.1
    have n0 : ¬ nI m < 0 := nI_pos (by omega)
    rw [pk_m1, LX12_lefts_63, if_neg n0]
    obtain ⟨s1, l1, y1, e1, p1, p2, p3⟩ := leftRow_M (K0 := m) (by omega) hw (fun σ24 w25 => lt (nI m + (-1)) (fun v26 => LX12_lefts_63 n K f σ24 w25 v26)) c n 0 s l y (by omega) (by omega) hg hv (hs.mono (fun k a _ hp => by unfold Pr at hp; show m + 1 ≤ k; omega))
    have e1 : LX12_lefts_69 (nI m) (fun σ24 w25 => lt (nI m + (-1)) (fun v26 => LX12_lefts_63 n K f σ24 w25 v26)) n s y 0 = lt (nI m + (-1)) (fun v26 => LX12_lefts_63 n K f s1 y1 v26) := e1
    rw [e1, lt_e]
    obtain ⟨s2, l2, y2, e2, q1, q2, q3⟩ := ih f s1 l1 y1 (by omega) (by omega) (hg.same p1 (by omega)) p2 (p3.mono (fun k a ha hp => by have hp : m ≤ k := hp; unfold Pr; omega))
    exact ⟨s2, l2, y2, e2, p1.tr q1, q2, q3⟩
def LfI (c N : Nat) (nx : Nat → Nat → Nat) (w : Nat → Nat) (G : Nat → Prop) (l : Nat → Nat) : Prop := ∀ k, k < N → l k ≤ 100000000 ∧ (G k → l k = 0) ∧ (l k = 100000000 ∨ (G k ∧ l k = 0) ∨ ∃ a, a < c ∧ l (nx k a) + w a ≤ l k)
theorem leftLoop_M {n c N : Nat} {nx : Nat → Nat → Nat} {cc w : Nat → Nat} {G : Nat → Prop} (hn : 1000000 ≤ n) (hw : ∀ a, w a = 1000 * cc a + 1) :
    ∀ (M f : Nat) (s : SC) (l : Nat → Nat), sm l N ≤ M → M + 2 < f → RG c N nx cc s → FVl 10 N s l → LfI c N nx w G l →
    ∃ s' l', LX12_lefts_50 n (fun σ29 => some σ29) f s 1 = some s' ∧ SamF 10 s s' ∧ FVl 10 N s' l' ∧ LfI c N nx w G l' ∧ ∀ k a, k < N → a < c → l' k ≤ l' (nx k a) + w a := by
  intro M
  induction M using Nat.strongRecOn with
  | _ M ih =>
    intro f s l hM hf hg hv hI
    obtain ⟨f, rfl⟩ : ∃ f', f = f' + 1 := ⟨f - 1, by omega⟩
    have gN := hg.2.1
    have gpos := hg.2.2.1
    have e8 : gi s 8 - 1 = nI N + (-1) := by
      obtain ⟨m, hm⟩ : ∃ m, N = m + 1 := ⟨N - 1, by omega⟩
      rw [hg.1, hm, nI_pred, pk_m1]
    rw [LX12_lefts_50, if_neg one_ne, e8, lt_e]
    obtain ⟨s1, l1, y1, e1, p1, p2, p3⟩ := leftSweep_M (l0 := l) (G := G) hn hw (fun σ27 w28 => LX12_lefts_50 n (fun σ29 => some σ29) f σ27 w28) N n s l 0 (Nat.le_refl _) (by omega) hg hv ⟨hI, Or.inl ⟨rfl, fun _ _ => rfl, fun k a hka hk => absurd hk (by omega)⟩⟩
    rw [e1]
    obtain ⟨r1, r3⟩ := p3
    rcases r3 with ⟨z1, z2, z3⟩ | ⟨z1, z2⟩
    · obtain ⟨f, rfl⟩ : ∃ f', f = f' + 1 := ⟨f - 1, by omega⟩
      rw [z1, LX12_lefts_50, if_pos rfl]
      refine ⟨s1, l1, rfl, p1, p2, r1, fun k a hk ha => ?_⟩
      rw [z2 k hk, z2 _ (hg.2.2.2.2.2.1 k a hk ha).1]
      exact z3 k a trivial hk ha
    · rw [z1]
      obtain ⟨s2, l2, e2, q1, q2, q3, q4⟩ := ih (sm l1 N) (by omega) f s1 l1 (Nat.le_refl _) (by omega) (hg.same p1 (by omega)) p2 r1
      exact ⟨s2, l2, e2, p1.tr q1, q2, q3, q4⟩
theorem lefts_M {n c N : Nat} {nx : Nat → Nat → Nat} {cc w : Nat → Nat} {t : SC} {xs : List Int32} (hn : 1000000000000 ≤ n) (hw : ∀ a, w a = 1000 * cc a + 1) (hg : RG c N nx cc t) (hx : ∀ k, k < N → ga t 8 k = xs.getD k 0) :
    ∃ s l, f_X12_lefts n t = some s ∧ SamF 10 t s ∧ FVl 10 N s l ∧ LfI c N nx w (fun k => sub (ga t 0 169) (xs.getD k 0)) l ∧ ∀ k a, k < N → a < c → l k ≤ l (nx k a) + w a := by
  have gN := hg.2.1
  unfold f_X12_lefts
  have b := loop_up (fun f i s => LX12_lefts_2 (fun σ7 => LX12_lefts_50 n (fun σ29 => some σ29) n σ7 1) f s (nI i)) (fun σ7 => LX12_lefts_50 n (fun σ29 => some σ29) n σ7 1) (fun i s => sa s 10 (upd (ga s 10) i (nI (if sub (ga t 0 169) (xs.getD i 0) then 0 else 100000000)))) N
    (fun i s => SamF 10 t s ∧ ∀ k, k < i → ga s 10 k = nI (if sub (ga t 0 169) (xs.getD k 0) then 0 else 100000000)) ?_ ?_ N n 0 t (by omega) (by omega) ⟨SamF.rf 10 t, fun k hk => absurd hk (by omega)⟩
  · obtain ⟨e, p1, p2⟩ := b
    have e : LX12_lefts_2 (fun σ7 => LX12_lefts_50 n (fun σ29 => some σ29) n σ7 1) n t 0 = _ := e
    rw [e]
    generalize itf (fun i s => sa s 10 (upd (ga s 10) i (nI (if sub (ga t 0 169) (xs.getD i 0) then 0 else 100000000)))) 0 N t = s at p1 p2
    have hb : ∀ k, k < N → (fun k => if sub (ga t 0 169) (xs.getD k 0) then 0 else 100000000) k ≤ 100000000 := fun k _ => by show (if sub (ga t 0 169) (xs.getD k 0) then 0 else 100000000) ≤ _; split <;> omega
    have hsum := sm_b (b := 100000000) hb
    obtain ⟨s', l', r1, r2, r3, r4, r5⟩ := leftLoop_M (n := n) (w := w) (G := fun k => sub (ga t 0 169) (xs.getD k 0)) (by omega) hw (sm (fun k => if sub (ga t 0 169) (xs.getD k 0) then 0 else 100000000) N) n s (fun k => if sub (ga t 0 169) (xs.getD k 0) then 0 else 100000000) (Nat.le_refl _) (by omega) (hg.same p1 (by omega)) p2 (fun k hk => ⟨hb k hk, fun hG => if_pos hG, by
      show (if sub (ga t 0 169) (xs.getD k 0) then 0 else 100000000) = 100000000 ∨ (sub (ga t 0 169) (xs.getD k 0) ∧ (if sub (ga t 0 169) (xs.getD k 0) then 0 else 100000000) = 0) ∨ _
      by_cases e : sub (ga t 0 169) (xs.getD k 0)
      · rw [if_pos e]; exact Or.inr (Or.inl ⟨e, rfl⟩)
      · rw [if_neg e]; exact Or.inl rfl⟩)
    exact ⟨s', l', r1, p1.tr r2, r3, r4, r5⟩
  · intro f s hI
    show LX12_lefts_2 _ (f + 1) s (nI N) = _
    rw [LX12_lefts_2, hI.1.1 8, hg.1, if_pos (nI_le (Nat.le_refl _) (by omega))]
  · intro f i s hi hI
    constructor
    · show LX12_lefts_2 _ (f + 1) s (nI i) = LX12_lefts_2 _ f _ (nI (i + 1))
      rw [LX12_lefts_2, hI.1.1 8, hg.1, if_neg (nI_ge hi (by omega)), ld_n i rfl (by omega) (by omega), ld169, hI.1.2.1 8 (by omega), hI.1.2.1 0 (by omega), hx i hi, ck_n i rfl (by omega) (by omega), ck_n i rfl (by omega) (by omega), nI_clamp (by omega)]
      simp only [lt_e, nI_p1]
      unfold f_X12_has
      by_cases e : sub (ga t 0 169) (xs.getD i 0)
      · rw [if_pos (show (ga t 0 169 &&& (xs.getD i 0 ^^^ (-1))) = 0 from e), if_neg one_ne, if_pos e]; rfl
      · rw [if_neg (show ¬ (ga t 0 169 &&& (xs.getD i 0 ^^^ (-1))) = 0 from e), if_pos rfl, if_neg e]; rfl
    · refine ⟨hI.1.tr (SamF.a 10 s _), fun k hk => ?_⟩
      show upd (ga s 10) i (nI (if sub (ga t 0 169) (xs.getD i 0) then 0 else 100000000)) k = _
      rw [ud_s]
      by_cases e : k = i
      · rw [if_pos e, e]
      · rw [if_neg e]; exact hI.2 k (by omega)
