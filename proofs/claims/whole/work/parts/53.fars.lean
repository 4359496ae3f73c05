/-! FARS: the reference lowers until nothing changes -/
def sm (f : Nat → Nat) : Nat → Nat
  | 0 => 0
  | k + 1 => sm f k + f k
theorem sm_eq {f g : Nat → Nat} : ∀ {n : Nat}, (∀ k, k < n → f k = g k) → sm f n = sm g n
  | 0, _ => rfl
  | n + 1, h => by show sm f n + f n = sm g n + g n; rw [sm_eq (fun k hk => h k (by omega)), h n (by omega)]
theorem sm_le {f g : Nat → Nat} : ∀ {n : Nat}, (∀ k, k < n → f k ≤ g k) → sm f n ≤ sm g n
  | 0, _ => Nat.le_refl 0
  | n + 1, h => by
    have h1 := sm_le (f := f) (g := g) (n := n) (fun k hk => h k (by omega))
    have h2 := h n (by omega)
    show sm f n + f n ≤ sm g n + g n; omega
theorem sm_lt {f g : Nat → Nat} : ∀ {n : Nat} (j : Nat), (∀ k, k < n → f k ≤ g k) → j < n → f j < g j → sm f n < sm g n
  | 0, j, _, hj, _ => absurd hj (by omega)
  | n + 1, j, h, hj, hl => by
    show sm f n + f n < sm g n + g n
    rcases Nat.lt_or_ge j n with q | q
    · have h1 := sm_lt (f := f) (g := g) (n := n) j (fun k hk => h k (by omega)) q hl
      have h2 := h n (by omega)
      omega
    · have e : j = n := by omega
      subst e
      have h1 := sm_le (f := f) (g := g) (n := j) (fun k hk => h k (by omega))
      omega
theorem sm_b {f : Nat → Nat} {b : Nat} : ∀ {n : Nat}, (∀ k, k < n → f k ≤ b) → sm f n ≤ n * b
  | 0, _ => by show 0 ≤ _; omega
  | n + 1, h => by
    have h1 := sm_b (f := f) (b := b) (n := n) (fun k hk => h k (by omega))
    have h2 := h n (by omega)
    show sm f n + f n ≤ _
    rw [Nat.add_mul]; omega
/-- the reference's ways, as numbers -/
def RG (c N : Nat) (nx : Nat → Nat → Nat) (cc : Nat → Nat) (t : SC) : Prop :=
  gi t 8 = nI N ∧ N ≤ 300 ∧ 0 < N ∧ c ≤ 24 ∧ ga t 0 172 = nI c ∧ (∀ k a, k < N → a < c → nx k a < N ∧ ga t 11 (24 * k + a) = nI (nx k a)) ∧ ∀ a, a < c → ga t 0 (72 + a) = nI (cc a) ∧ 1 ≤ cc a ∧ cc a ≤ 99
def SamF (j : Nat) (σ σ1 : SC) : Prop := (∀ k, gi σ1 k = gi σ k) ∧ (∀ a, a ≠ j → ga σ1 a = ga σ a) ∧ ∀ j, gl σ1 j = gl σ j
theorem SamF.rf (j : Nat) (σ : SC) : SamF j σ σ := ⟨fun _ => rfl, fun _ _ => rfl, fun _ => rfl⟩
theorem SamF.tr {j : Nat} {a b c : SC} (h : SamF j a b) (h2 : SamF j b c) : SamF j a c := ⟨fun k => (h2.1 k).trans (h.1 k), fun k p => (h2.2.1 k p).trans (h.2.1 k p), fun j => (h2.2.2 j).trans (h.2.2 j)⟩
theorem SamF.a (j : Nat) (s : SC) (f : Nat → Int32) : SamF j s (sa s j f) := by
  refine ⟨fun _ => rfl, fun q hq => ?_, fun _ => rfl⟩
  rw [ga_sa, if_neg hq]
theorem SamF.m {j : Nat} {σ s : SC} (h : SamF j σ s) (hj : 8 < j) (hj2 : j ≠ 13) : SameM σ s := by
  refine ⟨fun k _ => h.1 k, fun a ha => h.2.1 a ?_, h.2.2 0⟩
  simp only [List.mem_cons, List.not_mem_nil, or_false] at ha; omega
theorem RG.same {c N j : Nat} {nx : Nat → Nat → Nat} {cc : Nat → Nat} {t t' : SC} (h : RG c N nx cc t) (e : SamF j t t') (hj : j = 9 ∨ j = 10) : RG c N nx cc t' := by
  unfold RG at *
  rw [e.1 8, e.2.1 0 (by omega), e.2.1 11 (by omega)]; exact h
def FVl (j N : Nat) (s : SC) (far : Nat → Nat) : Prop := ∀ k, k < N → ga s j k = nI (far k)
theorem ld72n {β : Type} {f : Nat → Int32} {k : Int32 → Option β} {a : Nat} (h : a < 24) : ld f 173 (72 + nI a) k = k (f (72 + a)) := ld_n (72 + a) (nI_lit 72 a) (by omega) (by omega)
theorem ld24n {β : Type} {f : Nat → Int32} {k : Int32 → Option β} {a q : Nat} (h : a < 24) (hq : q < 300) : ld f 7200 (24 * nI q + nI a) k = k (f (24 * q + a)) := ld_n (24 * q + a) (by rw [show (24 : Int32) = nI 24 from rfl, pk_mul, nI_add]) (by omega) (by omega)
/-- where a sweep of fars stands -/
def SwF (c N : Nat) (nx : Nat → Nat → Nat) (cc lo far0 : Nat → Nat) (K A : Nat) (far : Nat → Nat) (y : Int32) : Prop :=
  (∀ k, k < N → far k ≤ 100000000 ∧ lo k ≤ far k) ∧ far 0 = 0 ∧
  ((y = 0 ∧ (∀ k, k < N → far k = far0 k) ∧ ∀ k a, (k < K ∨ (k = K ∧ a < A)) → k < N → a < c → far0 k < 100000000 → far0 (nx k a) ≤ far0 k + cc a) ∨ (y = 1 ∧ sm far N < sm far0 N))
theorem farRow_M {c N K0 : Nat} {nx : Nat → Nat → Nat} {cc lo far0 : Nat → Nat} (hK : K0 < N) (hlo : ∀ k a, k < N → a < c → lo (nx k a) ≤ lo k + cc a) (K : SC → Int32 → Option SC) :
    ∀ (d f A : Nat) (s : SC) (far : Nat → Nat) (y : Int32), A + d = c → d < f → RG c N nx cc s → FVl 9 N s far → SwF c N nx cc lo far0 K0 A far y →
    ∃ s' far' y', LX12_fars_52 (nI K0) K f s y (nI A) = K s' y' ∧ SamF 9 s s' ∧ FVl 9 N s' far' ∧ SwF c N nx cc lo far0 (K0 + 1) 0 far' y' := by
  intro d
  induction d with
  | zero =>
    intro f A s far y hA hf hg hv hs
    obtain ⟨f, rfl⟩ : ∃ f', f = f' + 1 := ⟨f - 1, by omega⟩
    have h24 := hg.2.2.2.1
    refine ⟨s, far, y, ?_, SamF.rf 9 s, hv, ?_⟩
    · rw [LX12_fars_52, ld172, hg.2.2.2.2.1, if_pos (nI_le (by omega) (by omega))]
    · exact ⟨hs.1, hs.2.1, hs.2.2.imp_left (fun ⟨z1, z2, z3⟩ => ⟨z1, z2, fun k a hka hk ha hlt => z3 k a (by omega) hk ha hlt⟩)⟩
  | succ d ih =>
    intro f A s far y hA hf hg hv hs
    obtain ⟨f, rfl⟩ : ∃ f', f = f' + 1 := ⟨f - 1, by omega⟩
    have hg' := hg
    obtain ⟨g8, gN, gpos, h24, g172, gnx, gcc⟩ := hg'
    have hs' := hs
    obtain ⟨s1, s2, s3⟩ := hs'
    obtain ⟨n1, n2⟩ := gnx K0 A hK (by omega)
    obtain ⟨c1, c2, c3⟩ := gcc A (by omega)
    have b1 := s1 K0 hK
    have b2 := s1 (nx K0 A) n1
    rw [LX12_fars_52, ld172, g172, if_neg (nI_ge (by omega) (by omega)), ld_n K0 rfl (by omega) (by omega), hv K0 hK]
    simp only [jn_e, lt_e]
    by_cases q : far K0 < 100000000
    · rw [if_neg (show ¬ (100000000 : Int32) ≤ nI (far K0) from nI_ge (b := 100000000) q (by omega)), ld24n (by omega) (by omega), n2, ld_n K0 rfl (by omega) (by omega), hv K0 hK, ld72n (by omega), c1, ld_n (nx K0 A) rfl (by omega) (by omega), hv _ n1, nI_add]
      have hl := hlo K0 A hK (by omega)
      by_cases w : far (nx K0 A) ≤ far K0 + cc A
      · rw [if_pos (nI_le w (by omega))]
        simp only [↓reduceIte]
        rw [ld_n (nx K0 A) rfl (by omega) (by omega), ck_n (nx K0 A) rfl (by omega) (by omega), nI_clamp (by omega), hv _ n1]
        have e9 := SamF.a 9 s (upd (ga s 9) (nx K0 A) (nI (far (nx K0 A))))
        have hv9 : FVl 9 N (sa s 9 (upd (ga s 9) (nx K0 A) (nI (far (nx K0 A))))) far := by
          intro k hk
          show upd (ga s 9) (nx K0 A) (nI (far (nx K0 A))) k = _
          rw [ud_s]
          by_cases e : k = nx K0 A
          · rw [if_pos e, e]
          · rw [if_neg e]; exact hv k hk
        have hsw : SwF c N nx cc lo far0 K0 (A + 1) far y := by
          refine ⟨s1, s2, s3.imp_left (fun ⟨z1, z2, z3⟩ => ⟨z1, z2, fun k a hka hk ha hlt => ?_⟩)⟩
          by_cases e : k = K0 ∧ a = A
          · rw [e.1, e.2, ← z2 K0 hK, ← z2 _ n1]; exact w
          · exact z3 k a (by omega) hk ha hlt
        obtain ⟨s', far', y', r1, r2, r3, r4⟩ := ih f (A + 1) (sa s 9 (upd (ga s 9) (nx K0 A) (nI (far (nx K0 A))))) far y (by omega) (by omega) (hg.same e9 (by omega)) hv9 hsw
        refine ⟨s', far', y', ?_, e9.tr r2, r3, r4⟩
        rw [nI_p1]
        rcases s3 with ⟨z, _⟩ | ⟨z, _⟩
        · rw [z, if_pos rfl]; rw [z] at r1; exact r1
        · rw [z, if_neg one_ne]; rw [z] at r1; exact r1
      · rw [if_neg (nI_ge (by omega) (by omega))]
        simp only [one_ne, ↓reduceIte]
        rw [ld_n K0 rfl (by omega) (by omega), hv K0 hK, ld72n (by omega), c1, ck_n (nx K0 A) rfl (by omega) (by omega), nI_clamp (by omega), nI_add]
        have e9 := SamF.a 9 s (upd (ga s 9) (nx K0 A) (nI (far K0 + cc A)))
        have hv9 : FVl 9 N (sa s 9 (upd (ga s 9) (nx K0 A) (nI (far K0 + cc A)))) (fun k => if k = nx K0 A then far K0 + cc A else far k) := by
          intro k hk
          show upd (ga s 9) (nx K0 A) (nI (far K0 + cc A)) k = nI (if k = nx K0 A then _ else _)
          rw [ud_s]
          by_cases e : k = nx K0 A
          · rw [if_pos e, if_pos e]
          · rw [if_neg e, if_neg e]; exact hv k hk
        have hle : ∀ k, k < N → (if k = nx K0 A then far K0 + cc A else far k) ≤ far k := by
          intro k hk
          by_cases e : k = nx K0 A
          · rw [if_pos e, e]; omega
          · rw [if_neg e]; exact Nat.le_refl _
        have hdec : sm (fun k => if k = nx K0 A then far K0 + cc A else far k) N < sm far N := sm_lt (nx K0 A) hle n1 (by show (if nx K0 A = nx K0 A then _ else _) < _; rw [if_pos rfl]; omega)
        have hsw : SwF c N nx cc lo far0 K0 (A + 1) (fun k => if k = nx K0 A then far K0 + cc A else far k) 1 := by
          refine ⟨fun k hk => ?_, ?_, Or.inr ⟨rfl, ?_⟩⟩
          · show (if k = nx K0 A then _ else _) ≤ _ ∧ _ ≤ (if k = nx K0 A then _ else _)
            by_cases e : k = nx K0 A
            · rw [if_pos e, e]; omega
            · rw [if_neg e]; exact s1 k hk
          · show (if 0 = nx K0 A then _ else far 0) = 0
            by_cases e : 0 = nx K0 A
            · rw [← e] at w; omega
            · rw [if_neg e]; exact s2
          · rcases s3 with ⟨_, z, _⟩ | ⟨_, z⟩
            · rw [← sm_eq z]; exact hdec
            · omega
        obtain ⟨s', far', y', r1, r2, r3, r4⟩ := ih f (A + 1) (sa s 9 (upd (ga s 9) (nx K0 A) (nI (far K0 + cc A)))) _ 1 (by omega) (by omega) (hg.same e9 (by omega)) hv9 hsw
        refine ⟨s', far', y', ?_, e9.tr r2, r3, r4⟩
        rw [nI_p1]
        rcases s3 with ⟨z, _⟩ | ⟨z, _⟩
        · rw [z, if_pos rfl]; exact r1
        · rw [z, if_neg one_ne]; exact r1
    · rw [if_pos (show (100000000 : Int32) ≤ nI (far K0) from nI_le (a := 100000000) (by omega) (by omega))]
      refine ⟨s, far, y, rfl, SamF.rf 9 s, hv, s1, s2, s3.imp_left (fun ⟨z1, z2, z3⟩ => ⟨z1, z2, fun k a hka hk ha hlt => ?_⟩)⟩
      by_cases e : k = K0
      · rw [e, ← z2 K0 hK] at hlt; exact absurd hlt q
      · exact z3 k a (by omega) hk ha hlt
theorem farSweep_M {n c N : Nat} {nx : Nat → Nat → Nat} {cc lo far0 : Nat → Nat} (hn : 1000000 ≤ n) (hlo : ∀ k a, k < N → a < c → lo (nx k a) ≤ lo k + cc a) (K : SC → Int32 → Option SC) :
    ∀ (d f i : Nat) (s : SC) (far : Nat → Nat) (y : Int32), i + d = N → d < f → RG c N nx cc s → FVl 9 N s far → SwF c N nx cc lo far0 i 0 far y →
    ∃ s' far' y', LX12_fars_42 n K f s y (nI i) = K s' y' ∧ SamF 9 s s' ∧ FVl 9 N s' far' ∧ SwF c N nx cc lo far0 N 0 far' y' := by
  intro d
  induction d with
  | zero =>
    intro f i s far y hi hf hg hv hs
    obtain ⟨f, rfl⟩ : ∃ f', f = f' + 1 := ⟨f - 1, by omega⟩
    have e : i = N := by omega
    subst e
    refine ⟨s, far, y, ?_, SamF.rf 9 s, hv, hs⟩
    rw [LX12_fars_42, hg.1, if_pos (nI_le (Nat.le_refl _) (by have := hg.2.1; omega))]
  | succ d ih =>
    intro f i s far y hi hf hg hv hs
    obtain ⟨f, rfl⟩ : ∃ f', f = f' + 1 := ⟨f - 1, by omega⟩
    have gN := hg.2.1
    have h24 := hg.2.2.2.1
    rw [LX12_fars_42, hg.1, if_neg (nI_ge (by omega) (by omega))]
    obtain ⟨s1, far1, y1, e1, p1, p2, p3⟩ := farRow_M (by omega) hlo (fun σ23 w24 => lt (nI i + 1) (fun v25 => LX12_fars_42 n K f σ23 w24 v25)) c n 0 s far y (by omega) (by omega) hg hv hs
    have e1 : LX12_fars_52 (nI i) (fun σ23 w24 => lt (nI i + 1) (fun v25 => LX12_fars_42 n K f σ23 w24 v25)) n s y 0 = lt (nI i + 1) (fun v25 => LX12_fars_42 n K f s1 y1 v25) := e1
    rw [e1, lt_e, nI_p1]
    obtain ⟨s2, far2, y2, e2, q1, q2, q3⟩ := ih f (i + 1) s1 far1 y1 (by omega) (by omega) (hg.same p1 (by omega)) p2 p3
    exact ⟨s2, far2, y2, e2, p1.tr q1, q2, q3⟩
theorem farLoop_M {n c N : Nat} {nx : Nat → Nat → Nat} {cc lo : Nat → Nat} (hn : 1000000 ≤ n) (hlo : ∀ k a, k < N → a < c → lo (nx k a) ≤ lo k + cc a) :
    ∀ (M f : Nat) (s : SC) (far : Nat → Nat), sm far N ≤ M → M + 2 < f → RG c N nx cc s → FVl 9 N s far → ((∀ k, k < N → far k ≤ 100000000 ∧ lo k ≤ far k) ∧ far 0 = 0) →
    ∃ s' far', LX12_fars_34 n (fun σ28 => some σ28) f s 1 = some s' ∧ SamF 9 s s' ∧ FVl 9 N s' far' ∧ ((∀ k, k < N → far' k ≤ 100000000 ∧ lo k ≤ far' k) ∧ far' 0 = 0) ∧ ∀ k a, k < N → a < c → far' k < 100000000 → far' (nx k a) ≤ far' k + cc a := by
  intro M
  induction M using Nat.strongRecOn with
  | _ M ih =>
    intro f s far hM hf hg hv hI
    obtain ⟨f, rfl⟩ : ∃ f', f = f' + 1 := ⟨f - 1, by omega⟩
    have gN := hg.2.1
    rw [LX12_fars_34, if_neg one_ne]
    obtain ⟨s1, far1, y1, e1, p1, p2, p3⟩ := farSweep_M (far0 := far) hn hlo (fun σ26 w27 => LX12_fars_34 n (fun σ28 => some σ28) f σ26 w27) N n 0 s far 0 (by omega) (by omega) hg hv ⟨hI.1, hI.2, Or.inl ⟨rfl, fun _ _ => rfl, fun k a hka => by omega⟩⟩
    have e1 : LX12_fars_42 n (fun σ26 w27 => LX12_fars_34 n (fun σ28 => some σ28) f σ26 w27) n s 0 0 = LX12_fars_34 n (fun σ28 => some σ28) f s1 y1 := e1
    rw [e1]
    obtain ⟨r1, r2, r3⟩ := p3
    rcases r3 with ⟨z1, z2, z3⟩ | ⟨z1, z2⟩
    · obtain ⟨f, rfl⟩ : ∃ f', f = f' + 1 := ⟨f - 1, by omega⟩
      rw [z1, LX12_fars_34, if_pos rfl]
      refine ⟨s1, far1, rfl, p1, p2, ⟨r1, r2⟩, fun k a hk ha hlt => ?_⟩
      rw [z2 k hk] at hlt ⊢
      rw [z2 _ (hg.2.2.2.2.2.1 k a hk ha).1]
      exact z3 k a (Or.inl hk) hk ha hlt
    · rw [z1]
      obtain ⟨s2, far2, e2, q1, q2, q3, q4⟩ := ih (sm far1 N) (by omega) f s1 far1 (Nat.le_refl _) (by omega) (hg.same p1 (by omega)) p2 ⟨r1, r2⟩
      exact ⟨s2, far2, e2, p1.tr q1, q2, q3, q4⟩
theorem fars_M {n c N : Nat} {nx : Nat → Nat → Nat} {cc lo : Nat → Nat} {t : SC} (hn : 1000000000000 ≤ n) (hlo : ∀ k a, k < N → a < c → lo (nx k a) ≤ lo k + cc a) (hl0 : lo 0 = 0) (hlb : ∀ k, k < N → lo k ≤ 100000000) (hg : RG c N nx cc t) :
    ∃ s far, f_X12_fars n t = some s ∧ SamF 9 t s ∧ FVl 9 N s far ∧ ((∀ k, k < N → far k ≤ 100000000 ∧ lo k ≤ far k) ∧ far 0 = 0) ∧ ∀ k a, k < N → a < c → far k < 100000000 → far (nx k a) ≤ far k + cc a := by
  have gN := hg.2.1
  unfold f_X12_fars
  have b := loop_up (fun f i s => LX12_fars_2 (fun σ5 => LX12_fars_34 n (fun σ28 => some σ28) n σ5 1) f s (nI i)) (fun σ5 => LX12_fars_34 n (fun σ28 => some σ28) n σ5 1) (fun i s => sa s 9 (upd (ga s 9) i (nI (if i = 0 then 0 else 100000000)))) N
    (fun i s => SamF 9 t s ∧ ∀ k, k < i → ga s 9 k = nI (if k = 0 then 0 else 100000000)) ?_ ?_ N n 0 t (by omega) (by omega) ⟨SamF.rf 9 t, fun k hk => absurd hk (by omega)⟩
  · obtain ⟨e, p1, p2⟩ := b
    have e : LX12_fars_2 (fun σ5 => LX12_fars_34 n (fun σ28 => some σ28) n σ5 1) n t 0 = _ := e
    rw [e]
    generalize itf (fun i s => sa s 9 (upd (ga s 9) i (nI (if i = 0 then 0 else 100000000)))) 0 N t = s at p1 p2
    have hb : ∀ k, k < N → (fun k => if k = 0 then 0 else 100000000) k ≤ 100000000 := fun k _ => by show (if k = 0 then 0 else 100000000) ≤ _; split <;> omega
    have hsum := sm_b (b := 100000000) hb
    obtain ⟨s', far', r1, r2, r3, r4, r5⟩ := farLoop_M (n := n) (lo := lo) (by omega) hlo (sm (fun k => if k = 0 then 0 else 100000000) N) n s (fun k => if k = 0 then 0 else 100000000) (Nat.le_refl _) (by omega) (hg.same p1 (by omega)) p2 ⟨fun k hk => ⟨hb k hk, by
      show lo k ≤ (if k = 0 then 0 else 100000000)
      by_cases e : k = 0
      · rw [if_pos e, e, hl0]; exact Nat.le_refl _
      · rw [if_neg e]; exact hlb k hk⟩, rfl⟩
    exact ⟨s', far', r1, p1.tr r2, r3, r4, r5⟩
  · intro f s hI
    show LX12_fars_2 _ (f + 1) s (nI N) = _
    rw [LX12_fars_2, hI.1.1 8, hg.1, if_pos (nI_le (Nat.le_refl _) (by omega))]
  · intro f i s hi hI
    constructor
    · show LX12_fars_2 _ (f + 1) s (nI i) = LX12_fars_2 _ f _ (nI (i + 1))
      rw [LX12_fars_2, hI.1.1 8, hg.1, if_neg (nI_ge hi (by omega)), ck_n i rfl (by omega) (by omega), ck_n i rfl (by omega) (by omega), nI_clamp (by omega)]
      simp only [lt_e, nI_p1]
      by_cases e : i = 0
      · rw [if_pos (show nI i = 0 by rw [e]; rfl), if_pos e]; rfl
      · rw [if_neg (nI_ne0 (by omega) (by omega)), if_neg e]; rfl
    · refine ⟨hI.1.tr (SamF.a 9 s _), fun k hk => ?_⟩
      show upd (ga s 9) i (nI (if i = 0 then 0 else 100000000)) k = _
      rw [ud_s]
      by_cases e : k = i
      · rw [if_pos e, e]
      · rw [if_neg e]; exact hI.2 k (by omega)
