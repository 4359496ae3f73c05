/-! REACHED: the row of states that are come to, both sides -/
theorem gd_l (xs : List Int32) (y : Int32) {k : Nat} (h : k < xs.length) : (xs ++ [y]).getD k 0 = xs.getD k 0 := by
  rw [List.getD_eq_getElem?_getD, List.getD_eq_getElem?_getD, List.getElem?_append_left h]
theorem gd_r (xs : List Int32) (y : Int32) : (xs ++ [y]).getD xs.length 0 = y := by
  rw [List.getD_eq_getElem?_getD, List.getElem?_append_right (Nat.le_refl _)]; simp
theorem gd_mem {xs : List Int32} {k : Nat} (h : k < xs.length) : xs.getD k 0 ∈ xs := by
  rw [List.getD_eq_getElem?_getD, List.getElem?_eq_getElem h]; exact List.getElem_mem h
theorem mem_gd {xs : List Int32} {y : Int32} (h : y ∈ xs) : ∃ k, k < xs.length ∧ xs.getD k 0 = y := by
  obtain ⟨k, hk, e⟩ := List.getElem_of_mem h
  exact ⟨k, hk, by rw [List.getD_eq_getElem?_getD, List.getElem?_eq_getElem hk, ← e]; rfl⟩
theorem ln_a (xs : List Int32) (y : Int32) : (xs ++ [y]).length = xs.length + 1 := by simp
def ND (xs : List Int32) : Prop := ∀ k k', k < xs.length → k' < xs.length → xs.getD k 0 = xs.getD k' 0 → k = k'
theorem ND_a {xs : List Int32} {y : Int32} (h : ND xs) (hy : y ∉ xs) : ND (xs ++ [y]) := by
  intro k k' hk hk' e
  rw [ln_a] at hk hk'
  rcases Nat.lt_or_ge k xs.length with q | q
  · rw [gd_l xs y q] at e
    rcases Nat.lt_or_ge k' xs.length with q' | q'
    · rw [gd_l xs y q'] at e; exact h k k' q q' e
    · rw [show k' = xs.length by omega, gd_r] at e; exact absurd (e ▸ gd_mem q) hy
  · rw [show k = xs.length by omega, gd_r] at e
    rcases Nat.lt_or_ge k' xs.length with q' | q'
    · rw [gd_l xs y q'] at e; exact absurd (e ▸ gd_mem q') hy
    · omega
def Pre (xs ys : List Int32) : Prop := xs.length ≤ ys.length ∧ ∀ k, k < xs.length → ys.getD k 0 = xs.getD k 0
theorem Pre.rf (xs : List Int32) : Pre xs xs := ⟨Nat.le_refl _, fun _ _ => rfl⟩
theorem Pre.tr {a b c : List Int32} (h : Pre a b) (h2 : Pre b c) : Pre a c := ⟨Nat.le_trans h.1 h2.1, fun k hk => (h2.2 k (Nat.lt_of_lt_of_le hk h.1)).trans (h.2 k hk)⟩
theorem Pre_a (xs : List Int32) (y : Int32) : Pre xs (xs ++ [y]) := ⟨by rw [ln_a]; omega, fun k hk => gd_l xs y hk⟩
theorem Pre.mem {xs ys : List Int32} (h : Pre xs ys) {y : Int32} (hy : y ∈ xs) : y ∈ ys := by
  obtain ⟨k, hk, rfl⟩ := mem_gd hy
  rw [← h.2 k hk]; exact gd_mem (Nat.lt_of_lt_of_le hk h.1)
def rG (nd mk ud : Nat → Int32) (x : Int32) : Nat → Option (List Int32) → Option (List Int32) := fun a o => match o with | none => none | some xs => if sub (nd a) x then addS xs (aft (ud a) (mk a) x) else some xs
theorem rowS_e (c : Nat) (nd mk ud : Nat → Int32) (x : Int32) (xs : List Int32) : rowS c nd mk ud x xs = fo (rG nd mk ud x) c (some xs) := rfl
/-- what holds of the row while it grows -/
def BR (c : Nat) (nd mk ud : Nat → Int32) (start : Int32) (K A : Nat) (xs : List Int32) : Prop :=
  0 < xs.length ∧ xs.length ≤ 300 ∧ ND xs ∧ xs.getD 0 0 = start ∧
  (∀ k, k < xs.length → k = 0 ∨ ∃ j a, j < k ∧ a < c ∧ sub (nd a) (xs.getD j 0) ∧ xs.getD k 0 = aft (ud a) (mk a) (xs.getD j 0)) ∧
  ∀ k a, (k < K ∨ (k = K ∧ a < A)) → a < c → k < xs.length → sub (nd a) (xs.getD k 0) → aft (ud a) (mk a) (xs.getD k 0) ∈ xs
theorem addS_c (xs : List Int32) (y : Int32) : (y ∈ xs ∧ addS xs y = some xs) ∨ (y ∉ xs ∧ xs.length < 300 ∧ addS xs y = some (xs ++ [y])) ∨ (y ∉ xs ∧ ¬ xs.length < 300 ∧ addS xs y = none) := by
  unfold addS
  by_cases h : y ∈ xs
  · rw [if_pos h]; exact Or.inl ⟨h, rfl⟩
  · rw [if_neg h]
    by_cases h2 : xs.length < 300
    · rw [if_pos h2]; exact Or.inr (Or.inl ⟨h, h2, rfl⟩)
    · rw [if_neg h2]; exact Or.inr (Or.inr ⟨h, h2, rfl⟩)
theorem BR_step {c : Nat} {nd mk ud : Nat → Int32} {start : Int32} {K A : Nat} {xs ys : List Int32} (h : BR c nd mk ud start K A xs) (hK : K < xs.length) (hA : A < c) (e : rG nd mk ud (xs.getD K 0) A (some xs) = some ys) : BR c nd mk ud start K (A + 1) ys ∧ Pre xs ys := by
  obtain ⟨h1, h2, h3, h4, h5, h6⟩ := h
  have e : (if sub (nd A) (xs.getD K 0) then addS xs (aft (ud A) (mk A) (xs.getD K 0)) else some xs) = some ys := e
  have same : (sub (nd A) (xs.getD K 0) → aft (ud A) (mk A) (xs.getD K 0) ∈ xs) → BR c nd mk ud start K (A + 1) xs ∧ Pre xs xs := by
    intro hin
    refine ⟨⟨h1, h2, h3, h4, h5, fun k a hka ha hk hs => ?_⟩, Pre.rf xs⟩
    by_cases q : k = K ∧ a = A
    · rw [q.1, q.2] at hs ⊢; exact hin hs
    · exact h6 k a (by omega) ha hk hs
  by_cases q : sub (nd A) (xs.getD K 0)
  · rw [if_pos q] at e
    rcases addS_c xs (aft (ud A) (mk A) (xs.getD K 0)) with ⟨p1, p2⟩ | ⟨p1, p2, p3⟩ | ⟨p1, p2, p3⟩
    · rw [p2] at e; cases e; exact same (fun _ => p1)
    · rw [p3] at e; cases e
      have hp := Pre_a xs (aft (ud A) (mk A) (xs.getD K 0))
      refine ⟨⟨by rw [ln_a]; omega, by rw [ln_a]; omega, ND_a h3 p1, by rw [gd_l xs _ h1, h4], fun k hk => ?_, fun k a hka ha hk hs => ?_⟩, hp⟩
      · rw [ln_a] at hk
        rcases Nat.lt_or_ge k xs.length with w | w
        · rcases h5 k w with z | ⟨j, a, z1, z2, z3, z4⟩
          · exact Or.inl z
          · exact Or.inr ⟨j, a, z1, z2, by rw [gd_l xs _ (by omega)]; exact z3, by rw [gd_l xs _ w, gd_l xs _ (by omega)]; exact z4⟩
        · rw [show k = xs.length by omega]
          exact Or.inr ⟨K, A, hK, hA, by rw [gd_l xs _ hK]; exact q, by rw [gd_r, gd_l xs _ hK]⟩
      · have hkx : k < xs.length := by omega
        rw [gd_l xs _ hkx] at hs ⊢
        by_cases w : k = K ∧ a = A
        · rw [w.1, w.2]; simp
        · exact hp.mem (h6 k a (by omega) ha hkx hs)
    · rw [p3] at e; cases e
  · rw [if_neg q] at e; cases e; exact same (fun w => absurd w q)
theorem rG_none {nd mk ud : Nat → Int32} {x : Int32} (a : Nat) : rG nd mk ud x a none = none := rfl
theorem BR_row {c : Nat} {nd mk ud : Nat → Int32} {start : Int32} {K : Nat} {xs ys : List Int32} (h : BR c nd mk ud start K 0 xs) (hK : K < xs.length) (e : rowS c nd mk ud (xs.getD K 0) xs = some ys) : BR c nd mk ud start (K + 1) 0 ys ∧ Pre xs ys := by
  rw [rowS_e] at e
  have key := fo_inv (g := rG nd mk ud (xs.getD K 0)) (x := some xs) (fun i o => ∀ zs, o = some zs → BR c nd mk ud start K i zs ∧ Pre xs zs) (fun zs hz => by cases hz; exact ⟨h, Pre.rf xs⟩) (c := c) ?_
  · obtain ⟨⟨b1, b2, b3, b4, b5, b6⟩, hp⟩ := key ys e
    exact ⟨⟨b1, b2, b3, b4, b5, fun k a hka ha hk hs => b6 k a (by omega) ha hk hs⟩, hp⟩
  · intro i o hi hI zs hz
    cases o with
    | none => cases hz
    | some ws =>
      obtain ⟨b, hp⟩ := hI ws rfl
      rw [← hp.2 K hK] at hz
      obtain ⟨b', hp'⟩ := BR_step b (Nat.lt_of_lt_of_le hK hp.1) hi hz
      exact ⟨b', hp.tr hp'⟩
theorem BR_bfs {c : Nat} {nd mk ud : Nat → Int32} {start : Int32} : ∀ (f k : Nat) (xs ys : List Int32), k + f = 301 → k ≤ xs.length → BR c nd mk ud start k 0 xs → bfs c nd mk ud f k xs = some ys → BR c nd mk ud start ys.length 0 ys
  | 0, k, xs, ys, h1, h2, hb, _ => by have := hb.2.1; omega
  | f + 1, k, xs, ys, h1, h2, hb, e => by
    rw [bfs] at e
    by_cases q : k < xs.length
    · rw [if_pos q] at e
      cases hr : rowS c nd mk ud (xs.getD k 0) xs with
      | none => rw [hr] at e; cases e
      | some zs =>
        rw [hr] at e
        obtain ⟨b, hp⟩ := BR_row hb q hr
        exact BR_bfs f (k + 1) zs ys (by omega) (by have := hp.1; omega) b e
    · rw [if_neg q] at e; cases e
      rw [show k = xs.length by omega] at hb
      exact hb
theorem BR_start (c : Nat) (nd mk ud : Nat → Int32) (start : Int32) : BR c nd mk ud start 0 0 [start] :=
  ⟨by simp, by simp, fun k k' hk hk' _ => by simp at hk hk'; omega, rfl, fun k hk => by simp at hk; exact Or.inl hk, fun k a h _ _ => by omega⟩
theorem BR_reach {c : Nat} {nd mk ud : Nat → Int32} {start : Int32} {xs : List Int32} (e : reachS c nd mk ud start = some xs) : BR c nd mk ud start xs.length 0 xs :=
  BR_bfs 301 0 [start] xs (by omega) (by simp) (BR_start c nd mk ud start) e
/-! hashing -/
theorem pig : ∀ (n m : Nat) (f : Nat → Nat), (∀ i, i < m → f i < n) → (∀ i j, i < m → j < m → f i = f j → i = j) → m ≤ n
  | 0, m, f, h, _ => by
    rcases Nat.eq_zero_or_pos m with q | q
    · omega
    · exact absurd (h 0 q) (by omega)
  | n + 1, 0, f, _, _ => by omega
  | n + 1, m + 1, f, h, inj => by
    have := pig n m (fun i => if f i = n then f m else f i) ?_ ?_
    · omega
    · intro i hi
      show (if f i = n then f m else f i) < n
      have h1 := h i (by omega)
      have h2 := h m (by omega)
      by_cases q : f i = n
      · rw [if_pos q]
        have : f m ≠ n := fun w => by have := inj i m (by omega) (by omega) (q.trans w.symm); omega
        omega
      · rw [if_neg q]; omega
    · intro i j hi hj e
      have e : (if f i = n then f m else f i) = (if f j = n then f m else f j) := e
      by_cases q : f i = n
      · by_cases q2 : f j = n
        · exact inj i j (by omega) (by omega) (q.trans q2.symm)
        · rw [if_pos q, if_neg q2] at e
          have := inj m j (by omega) (by omega) e; omega
      · by_cases q2 : f j = n
        · rw [if_neg q, if_pos q2] at e
          have := inj i m (by omega) (by omega) e; omega
        · rw [if_neg q, if_neg q2] at e
          exact inj i j (by omega) (by omega) e
theorem least (P : Nat → Prop) : ∀ (N : Nat), (∃ t, t < N ∧ P t) → ∃ t, t < N ∧ P t ∧ ∀ t', t' < t → ¬ P t'
  | 0, h => by obtain ⟨t, h1, _⟩ := h; omega
  | N + 1, h => by
    rcases Classical.em (∃ t, t < N ∧ P t) with q | q
    · obtain ⟨t, h1, h2, h3⟩ := least P N q
      exact ⟨t, by omega, h2, h3⟩
    · obtain ⟨t, h1, h2⟩ := h
      exact ⟨t, h1, h2, fun t' ht' hp => q ⟨t', by omega, hp⟩⟩
theorem hsh_ok (x : Int32) : ((x * (-1640531535)).toUInt32 >>> ((22 : Int32).toUInt32 &&& Int32.toUInt32 31)).toInt32 = nI (hsh x) ∧ hsh x < 1024 := by
  unfold hsh
  generalize x * (-1640531535) = y
  have hb : ((y.toUInt32 >>> ((22 : Int32).toUInt32 &&& Int32.toUInt32 31)).toInt32) = ((y.toUInt32 >>> ((22 : Int32).toUInt32 &&& Int32.toUInt32 31)).toInt32) &&& 1023 := by
    refine b_ext fun i hi => ?_
    have h1 : ∀ i, i < 32 → bt 1023 i = decide (i < 10) := by decide +kernel
    have h2 : bt ((y.toUInt32 >>> ((22 : Int32).toUInt32 &&& Int32.toUInt32 31)).toInt32) i = bt y (22 + i) := b_ushr 22 (by omega) y i
    rw [b_and, h1 i hi, h2]
    by_cases q : i < 10
    · rw [decide_eq_true q, Bool.and_true]
    · rw [b_big (by omega)]; rfl
  obtain ⟨j, hj, e⟩ := pk_andE ((y.toUInt32 >>> ((22 : Int32).toUInt32 &&& Int32.toUInt32 31)).toInt32) (m := 1023) 10 (by decide)
  rw [hb, e, nI_clamp (by omega)]
  exact ⟨rfl, hj⟩
theorem and1023 {k : Nat} (h : k < 2 ^ 31) : nI k &&& 1023 = nI (k % 1024) := pk_andN (by omega) 10 (by decide)
def ST (σ : SC) (xs : List Int32) : Prop := ∀ k, k < xs.length → ga σ 10 k = xs.getD k 0
theorem slot_walk {n t : Nat} {σ : SC} {xs : List Int32} {y : Int32} (hn : 1000000 ≤ n) (ht : t < 1024) (hs : ST σ xs) (hl : xs.length ≤ 300)
    (hb : ∀ t', t' < t → ∃ k, k < xs.length ∧ ga σ 11 ((hsh y + t') % 1024) = nI (k + 1) ∧ xs.getD k 0 ≠ y)
    (he : ga σ 11 ((hsh y + t) % 1024) = 0 ∨ ∃ k, k < xs.length ∧ ga σ 11 ((hsh y + t) % 1024) = nI (k + 1) ∧ xs.getD k 0 = y) : f_X6_slotOf n σ y = some (nI ((hsh y + t) % 1024)) := by
  unfold f_X6_slotOf
  obtain ⟨h1, h2⟩ := hsh_ok y
  rw [lt_e, h1]
  have key : ∀ (d f i : Nat), i + d = t → d < f → LX6_slotOf_10 σ y (fun w6 => some w6) f (nI ((hsh y + i) % 1024)) (nI i) = some (nI ((hsh y + t) % 1024)) := by
    intro d
    induction d with
    | zero =>
      intro f i hi hf
      obtain ⟨f, rfl⟩ : ∃ f', f = f' + 1 := ⟨f - 1, by omega⟩
      have e : i = t := by omega
      subst e
      rw [LX6_slotOf_10, if_neg (show ¬ (1024 : Int32) ≤ nI i from nI_ge (b := 1024) (by omega) (by omega)), ld_n ((hsh y + i) % 1024) rfl (by omega) (by omega)]
      rcases he with e | ⟨k, e1, e2, e3⟩
      · rw [if_pos e]
      · rw [e2, if_neg (nI_ne0 (by omega) (by omega)), nI_pred, ld_n k rfl (by omega) (by omega), hs k e1, if_pos e3]
    | succ d ih =>
      intro f i hi hf
      obtain ⟨f, rfl⟩ : ∃ f', f = f' + 1 := ⟨f - 1, by omega⟩
      obtain ⟨k, e1, e2, e3⟩ := hb i (by omega)
      rw [LX6_slotOf_10, if_neg (show ¬ (1024 : Int32) ≤ nI i from nI_ge (b := 1024) (by omega) (by omega)), ld_n ((hsh y + i) % 1024) rfl (by omega) (by omega), e2, if_neg (nI_ne0 (by omega) (by omega)), nI_pred, ld_n k rfl (by omega) (by omega), hs k e1, if_neg e3, nI_p1, and1023 (by omega), lt_e, lt_e, nI_p1, show ((hsh y + i) % 1024 + 1) % 1024 = (hsh y + (i + 1)) % 1024 by omega]
      exact ih f (i + 1) (by omega) (by omega)
  have := key t n 0 (by omega) (by omega)
  rw [show (hsh y + 0) % 1024 = hsh y by omega] at this
  exact this
theorem slot_ok {n : Nat} {σ : SC} {xs : List Int32} (hn : 1000000 ≤ n) (y : Int32) (hs : ST σ xs) (hl : xs.length ≤ 300) (hN : ND xs) (hH : HashP (ga σ 11) xs) :
    ∃ t, t < 1024 ∧ f_X6_slotOf n σ y = some (nI ((hsh y + t) % 1024)) ∧ ((∃ k, k < xs.length ∧ xs.getD k 0 = y ∧ ga σ 11 ((hsh y + t) % 1024) = nI (k + 1)) ∨ (y ∉ xs ∧ ga σ 11 ((hsh y + t) % 1024) = 0 ∧ ∀ t', t' < t → ga σ 11 ((hsh y + t') % 1024) ≠ 0)) := by
  obtain ⟨H1, H2, H3⟩ := hH
  rcases Classical.em (y ∈ xs) with hy | hy
  · obtain ⟨k, hk, e⟩ := mem_gd hy
    obtain ⟨t, ht, q1, q2⟩ := H3 k hk
    rw [e] at q1 q2
    refine ⟨t, ht, slot_walk hn ht hs hl (fun t' ht' => ?_) (Or.inr ⟨k, hk, q1, e⟩), Or.inl ⟨k, hk, e, q1⟩⟩
    rcases H1 ((hsh y + t') % 1024) (by omega) with z | ⟨k', hk', z⟩
    · exact absurd z (q2 t' ht')
    · refine ⟨k', hk', z, fun w => ?_⟩
      have : k' = k := hN k' k hk' hk (w.trans e.symm)
      subst this
      have := H2 _ _ k' (by omega) (by omega) z q1 hk'
      omega
  · have hfree : ∃ t, t < 1024 ∧ ga σ 11 ((hsh y + t) % 1024) = 0 := by
      apply Classical.byContradiction
      intro hno
      have hex : ∀ t, t < 1024 → ∃ k, k < xs.length ∧ ga σ 11 ((hsh y + t) % 1024) = nI (k + 1) := by
        intro t ht
        rcases H1 ((hsh y + t) % 1024) (by omega) with z | z
        · exact absurd ⟨t, ht, z⟩ hno
        · exact z
      have hf : ∀ t k, k < xs.length → ga σ 11 ((hsh y + t) % 1024) = nI (k + 1) → (ga σ 11 ((hsh y + t) % 1024)).toNatClampNeg - 1 = k := by
        intro t k hk e; rw [e, nI_clamp (by omega)]; omega
      have := pig xs.length 1024 (fun t => (ga σ 11 ((hsh y + t) % 1024)).toNatClampNeg - 1) ?_ ?_
      · omega
      · intro t ht
        obtain ⟨k, hk, e⟩ := hex t ht
        show (ga σ 11 ((hsh y + t) % 1024)).toNatClampNeg - 1 < _
        rw [hf t k hk e]; exact hk
      · intro t t' ht ht' e
        obtain ⟨k, hk, e1⟩ := hex t ht
        obtain ⟨k', hk', e2⟩ := hex t' ht'
        have e : (ga σ 11 ((hsh y + t) % 1024)).toNatClampNeg - 1 = (ga σ 11 ((hsh y + t') % 1024)).toNatClampNeg - 1 := e
        rw [hf t k hk e1, hf t' k' hk' e2] at e
        subst e
        have := H2 _ _ k (by omega) (by omega) e1 e2 hk
        omega
    obtain ⟨t, ht, z, hb⟩ := least (fun t => ga σ 11 ((hsh y + t) % 1024) = 0) 1024 hfree
    refine ⟨t, ht, slot_walk hn ht hs hl (fun t' ht' => ?_) (Or.inl z), Or.inr ⟨hy, z, fun t' ht' => hb t' ht'⟩⟩
    rcases H1 ((hsh y + t') % 1024) (by omega) with z' | ⟨k', hk', z'⟩
    · exact absurd z' (hb t' ht')
    · exact ⟨k', hk', z', fun w => hy (w ▸ gd_mem hk')⟩
theorem HashP_a {sl : Nat → Int32} {xs : List Int32} {y : Int32} {t : Nat} (hl : xs.length < 300) (H : HashP sl xs) (ht : t < 1024) (z : sl ((hsh y + t) % 1024) = 0) (hb : ∀ t', t' < t → sl ((hsh y + t') % 1024) ≠ 0) :
    HashP (upd sl ((hsh y + t) % 1024) (nI (xs.length + 1))) (xs ++ [y]) := by
  obtain ⟨H1, H2, H3⟩ := H
  have old : ∀ q k, q < 1024 → k < xs.length → sl q = nI (k + 1) → upd sl ((hsh y + t) % 1024) (nI (xs.length + 1)) q = nI (k + 1) := by
    intro q k hq hk e
    rw [ud_s]
    by_cases w : q = (hsh y + t) % 1024
    · rw [w, z] at e; exact absurd e.symm (nI_ne0 (by omega) (by omega))
    · rw [if_neg w, e]
  have nz : ∀ q, sl q ≠ 0 → upd sl ((hsh y + t) % 1024) (nI (xs.length + 1)) q ≠ 0 := by
    intro q hq
    rw [ud_s]
    by_cases w : q = (hsh y + t) % 1024
    · rw [if_pos w]; exact nI_ne0 (by omega) (by omega)
    · rw [if_neg w]; exact hq
  refine ⟨fun q hq => ?_, fun q q' k hq hq' e e' hk => ?_, fun k hk => ?_⟩
  · rw [ud_s]
    by_cases w : q = (hsh y + t) % 1024
    · rw [if_pos w]; exact Or.inr ⟨xs.length, by rw [ln_a]; omega, rfl⟩
    · rw [if_neg w]
      rcases H1 q hq with z | ⟨k, hk, z⟩
      · exact Or.inl z
      · exact Or.inr ⟨k, by rw [ln_a]; omega, z⟩
  · rw [ln_a] at hk
    rw [ud_s] at e e'
    by_cases w : q = (hsh y + t) % 1024
    · by_cases w' : q' = (hsh y + t) % 1024
      · omega
      · rw [if_pos w] at e; rw [if_neg w'] at e'
        have : xs.length + 1 = k + 1 := (nI_eq (by omega) (by omega)).mp e
        rcases H1 q' hq' with z' | ⟨k', hk', z'⟩
        · rw [z'] at e'; exact absurd e'.symm (nI_ne0 (by omega) (by omega))
        · rw [z'] at e'
          have := (nI_eq (by omega) (by omega)).mp e'
          omega
    · rw [if_neg w] at e
      by_cases w' : q' = (hsh y + t) % 1024
      · rw [if_pos w'] at e'
        have : xs.length + 1 = k + 1 := (nI_eq (by omega) (by omega)).mp e'
        rcases H1 q hq with z' | ⟨k', hk', z'⟩
        · rw [z'] at e; exact absurd e.symm (nI_ne0 (by omega) (by omega))
        · rw [z'] at e
          have := (nI_eq (by omega) (by omega)).mp e
          omega
      · rw [if_neg w'] at e'
        rcases Nat.lt_or_ge k xs.length with l | l
        · exact H2 q q' k hq hq' e e' l
        · rcases H1 q hq with z' | ⟨k', hk', z'⟩
          · rw [z'] at e; exact absurd e.symm (nI_ne0 (by omega) (by omega))
          · rw [z'] at e
            have := (nI_eq (by omega) (by omega)).mp e
            omega
  · rw [ln_a] at hk
    rcases Nat.lt_or_ge k xs.length with l | l
    · rw [gd_l xs y l]
      obtain ⟨t1, q1, q2, q3⟩ := H3 k l
      exact ⟨t1, q1, old _ k (by omega) l q2, fun t' ht' => nz _ (q3 t' ht')⟩
    · rw [show k = xs.length by omega, gd_r]
      exact ⟨t, ht, by rw [ud_s, if_pos rfl], fun t' ht' => nz _ (hb t' ht')⟩
/-! the class -/
def SamR (σ σ1 : SC) : Prop := (∀ k, k ≠ 14 → k ≠ 15 → k ≠ 16 → gi σ1 k = gi σ k) ∧ (∀ a, a ≠ 10 → a ≠ 11 → ga σ1 a = ga σ a) ∧ ∀ j, gl σ1 j = gl σ j
theorem SamR.rf (σ : SC) : SamR σ σ := ⟨fun _ _ _ _ => rfl, fun _ _ _ => rfl, fun _ => rfl⟩
theorem SamR.tr {a b c : SC} (h : SamR a b) (h2 : SamR b c) : SamR a c := ⟨fun k p q r => (h2.1 k p q r).trans (h.1 k p q r), fun k p q => (h2.2.1 k p q).trans (h.2.1 k p q), fun j => (h2.2.2 j).trans (h.2.2 j)⟩
def HR (s : SC) (o : Option (List Int32)) : Prop := gi s 16 = 1 ∧ match o with
  | none => gi s 15 = 1
  | some xs => gi s 15 = 0 ∧ gi s 14 = nI xs.length ∧ xs.length ≤ 300 ∧ ND xs ∧ ST s xs ∧ HashP (ga s 11) xs
theorem enter_ok {n : Nat} {s : SC} {xs : List Int32} (hn : 1000000 ≤ n) (h : HR s (some xs)) (y : Int32) : ∃ s', f_X6_enter n s y = some s' ∧ SamR s s' ∧ HR s' (addS xs y) := by
  obtain ⟨h16, h15, h14, hl, hN, hS, hH⟩ := h
  unfold f_X6_enter
  obtain ⟨t, ht, e, hc⟩ := slot_ok hn y hS hl hN hH
  rw [e, bd_e, ld_n ((hsh y + t) % 1024) rfl (by omega) (by omega)]
  rcases hc with ⟨k, hk, hy, z⟩ | ⟨hy, z, hb⟩
  · rw [z, if_neg (nI_ne0 (by omega) (by omega))]
    have : addS xs y = some xs := by unfold addS; rw [if_pos (hy ▸ gd_mem hk)]
    rw [this]
    exact ⟨s, rfl, SamR.rf s, h16, h15, h14, hl, hN, hS, hH⟩
  · rw [if_pos z, h14]
    by_cases q : xs.length < 300
    · have ea : addS xs y = some (xs ++ [y]) := by unfold addS; rw [if_neg hy, if_pos q]
      rw [if_pos (show nI xs.length < (300 : Int32) from nI_lt (b := 300) q (by omega)), ck_n xs.length rfl q (by omega), lt_e, lt_e, gi_sa, h14, ck_n ((hsh y + t) % 1024) rfl (by omega) (by omega), lt_e, ea, nI_clamp (by omega), nI_clamp (by omega), nI_p1]
      refine ⟨_, rfl, ⟨fun k p1 p2 p3 => ?_, fun a p1 p2 => ?_, fun _ => rfl⟩, ?_⟩
      · rw [gi_sa, gi_si, if_neg p1]; rfl
      · rw [ga_sa, if_neg p2, ga_si, ga_sa, if_neg p1]
      · refine ⟨h16, h15, by rw [ln_a]; rfl, by rw [ln_a]; omega, ND_a hN hy, fun k hk => ?_, ?_⟩
        · rw [ln_a] at hk
          show upd (ga s 10) xs.length y k = _
          rw [ud_s]
          rcases Nat.lt_or_ge k xs.length with l | l
          · rw [if_neg (by omega), gd_l xs y l]; exact hS k l
          · rw [show k = xs.length by omega, if_pos rfl, gd_r]
        · exact HashP_a q hH ht z hb
    · have ea : addS xs y = none := by unfold addS; rw [if_neg hy, if_neg q]
      rw [if_neg (show ¬ nI xs.length < (300 : Int32) from nI_nlt (b := 300) (by omega) (by omega)), lt_e, ea]
      refine ⟨_, rfl, ⟨fun k p1 p2 p3 => ?_, fun a p1 p2 => rfl, fun _ => rfl⟩, h16, rfl⟩
      rw [gi_si, if_neg p2]
theorem row_C {n c k : Nat} {σ : SC} {xs : List Int32} {s0 : SC} (hn : 1000000 ≤ n) (h6 : gi σ 6 = nI c) (h24 : c ≤ 24) (hs : SamR σ s0) (h : HR s0 (some xs)) (hk : k < xs.length) (K : SC → Option SC) :
    ∃ s', LX6_explore_62 n (nI k) K n s0 0 = K s' ∧ SamR σ s' ∧ HR s' (rowS c (ga σ 0) (ga σ 1) (ga σ 2) (xs.getD k 0) xs) := by
  rw [rowS_e]
  have hl := h.2.2.2.1
  have b := loop_rel (L := fun f i s => LX6_explore_62 n (nI k) K f s (nI i)) (K := K) (g := rG (ga σ 0) (ga σ 1) (ga σ 2) (xs.getD k 0)) (c := c) (n := n) (x := s0) (y := some xs)
    (fun i s o => SamR σ s ∧ HR s o ∧ ∀ ys, o = some ys → Pre xs ys) (by omega) ⟨hs, h, fun ys e => by cases e; exact Pre.rf xs⟩ ?_ ?_
  · obtain ⟨s', e, p1, p2, _⟩ := b
    exact ⟨s', e, p1, p2⟩
  · intro f s o hI
    show LX6_explore_62 n (nI k) K (f + 1) s (nI c) = _
    rw [LX6_explore_62, hI.1.1 6 (by omega) (by omega) (by omega), h6, if_pos (nI_le (Nat.le_refl c) (by omega))]
  · intro f i s o hi hI
    obtain ⟨q1, q2, q3⟩ := hI
    have e0 : LX6_explore_62 n (nI k) K (f + 1) s (nI i) = if (gi s 15) = 0 then ld (ga s 10) 300 (nI k) (fun v7 => bd (f_X0_isAllowed s v7 (nI i)) (fun v9 => if v9 = 0 then lt (nI i + 1) (fun v10 => LX6_explore_62 n (nI k) K f s v10) else ld (ga s 10) 300 (nI k) (fun v11 => bd (f_X0_after s v11 (nI i)) (fun v13 => bd (f_X6_enter n s v13) (fun σ15 => lt (nI i + 1) (fun v16 => LX6_explore_62 n (nI k) K f σ15 v16)))))) else K s := by
      rw [LX6_explore_62, q1.1 6 (by omega) (by omega) (by omega), h6, if_neg (nI_ge hi (by omega))]
    cases o with
    | none =>
      left
      refine ⟨?_, q1, ?_, fun ys e => ?_⟩
      · show LX6_explore_62 n (nI k) K (f + 1) s (nI i) = _
        rw [e0, show gi s 15 = 1 from q2.2, if_neg one_ne]
      · rw [itf_id (c - i) i (fun j _ _ => rG_none j)]; exact q2
      · rw [itf_id (c - i) i (fun j _ _ => rG_none j)] at e; cases e
    | some ys =>
      right
      have hp := q3 ys rfl
      have q2' := q2
      obtain ⟨_, g15, g14, gl', gN, gS, gH⟩ := q2'
      have g15 : gi s 15 = 0 := g15
      have hx : ga s 10 k = xs.getD k 0 := by rw [gS k (by have := hp.1; omega), hp.2 k hk]
      have e1 : LX6_explore_62 n (nI k) K (f + 1) s (nI i) = if (if sub (ga σ 0 i) (xs.getD k 0) then (1 : Int32) else 0) = 0 then LX6_explore_62 n (nI k) K f s (nI (i + 1)) else bd (f_X6_enter n s (aft (ga σ 2 i) (ga σ 1 i) (xs.getD k 0))) (fun σ15 => LX6_explore_62 n (nI k) K f σ15 (nI (i + 1))) := by
        rw [e0, if_pos g15, ld_n k rfl (by omega) (by omega), ld_n k rfl (by omega) (by omega), hx, allowed_C (by omega), bd_e, after_C (by omega), bd_e, q1.2.1 0 (by omega) (by omega), q1.2.1 1 (by omega) (by omega), q1.2.1 2 (by omega) (by omega)]
        simp only [lt_e, nI_p1]
      by_cases w : sub (ga σ 0 i) (xs.getD k 0)
      · rw [if_pos w, if_neg one_ne] at e1
        obtain ⟨s', e2, p1, p2⟩ := enter_ok hn q2 (aft (ga σ 2 i) (ga σ 1 i) (xs.getD k 0))
        rw [e2, bd_e] at e1
        have er : rG (ga σ 0) (ga σ 1) (ga σ 2) (xs.getD k 0) i (some ys) = addS ys (aft (ga σ 2 i) (ga σ 1 i) (xs.getD k 0)) := if_pos w
        refine ⟨s', e1, q1.tr p1, by rw [er]; exact p2, fun zs hz => ?_⟩
        rw [er] at hz
        rcases addS_c ys (aft (ga σ 2 i) (ga σ 1 i) (xs.getD k 0)) with ⟨_, u⟩ | ⟨_, _, u⟩ | ⟨_, _, u⟩
        · rw [u] at hz; cases hz; exact hp
        · rw [u] at hz; cases hz; exact hp.tr (Pre_a _ _)
        · rw [u] at hz; cases hz
      · rw [if_neg w, if_pos rfl] at e1
        have er : rG (ga σ 0) (ga σ 1) (ga σ 2) (xs.getD k 0) i (some ys) = some ys := if_neg w
        exact ⟨s, e1, q1, by rw [er]; exact q2, fun zs hz => by rw [er] at hz; exact q3 zs hz⟩
theorem bfs_C {n c : Nat} {σ : SC} (hn : 1000000 ≤ n) (h6 : gi σ 6 = nI c) (h24 : c ≤ 24) : ∀ (f k fM : Nat) (xs : List Int32) (s : SC), k + f = 301 → f < fM → k ≤ xs.length → SamR σ s → HR s (some xs) → BR c (ga σ 0) (ga σ 1) (ga σ 2) (gi σ 1) k 0 xs →
    ∃ s', LX6_explore_38 n (fun σ19 => some σ19) fM s (nI k) = some s' ∧ SamR σ s' ∧ HR s' (bfs c (ga σ 0) (ga σ 1) (ga σ 2) f k xs) := by
  intro f
  induction f with
  | zero => intro k fM xs s h1 h2 h3 hs h hb; have := hb.2.1; omega
  | succ f ih =>
    intro k fM xs s h1 h2 h3 hs h hb
    obtain ⟨fM, rfl⟩ : ∃ f', fM = f' + 1 := ⟨fM - 1, by omega⟩
    have hl := h.2.2.2.1
    have h14 := h.2.2.1
    have h15 : gi s 15 = 0 := h.2.1
    rw [LX6_explore_38, h14, h15, bfs]
    by_cases q : k < xs.length
    · rw [if_pos q, if_neg (show ¬ (300 : Int32) ≤ nI k from nI_ge (b := 300) (by omega) (by omega)), if_neg (nI_ge q (by omega)), if_pos rfl]
      obtain ⟨s1, e, p1, p2⟩ := row_C hn h6 h24 hs h q (fun σ17 => lt (nI k + 1) (fun v18 => LX6_explore_38 n (fun σ19 => some σ19) fM σ17 v18))
      rw [e, lt_e, nI_p1]
      cases hr : rowS c (ga σ 0) (ga σ 1) (ga σ 2) (xs.getD k 0) xs with
      | none =>
        rw [hr] at p2
        obtain ⟨fM, rfl⟩ : ∃ f', fM = f' + 1 := ⟨fM - 1, by omega⟩
        refine ⟨s1, ?_, p1, p2⟩
        rw [LX6_explore_38, show gi s1 15 = 1 from p2.2, if_neg one_ne]
        split
        · rfl
        · split <;> rfl
      | some ys =>
        rw [hr] at p2
        obtain ⟨b, hp⟩ := BR_row hb q hr
        exact ih (k + 1) fM ys s1 (by omega) (by omega) (by have := hp.1; omega) p1 p2 b
    · rw [if_neg q, if_pos (nI_le (a := xs.length) (b := k) (by omega) (by omega))]
      refine ⟨s, ?_, hs, h⟩
      split <;> rfl
theorem explore_ok {n c : Nat} {σ τ : SC} (hn : 1000000 ≤ n) (h : RelC c σ τ) : ∃ s, f_X6_explore n σ (gi σ 1) = some s ∧ RelC c s τ ∧ gi s 16 = 1 ∧ ReachP c (ga s 0) (ga s 1) (ga s 2) (gi s 1) (gi s 14) (gi s 15) (ga s 10) (ga s 11) ∧ SamR σ s := by
  unfold f_X6_explore
  have hC := h.2.2.2.2.2.2.2.2
  rcases hC with ⟨c1, c2, c3⟩ | ⟨c1, c2, c3⟩
  · rw [c1, if_pos rfl]
    simp only [lt_e]
    have s0 : SamR σ (sa (si (si (si σ 16 1) 14 0) 15 0) 11 (fun _ => 0)) := by
      refine ⟨fun k p1 p2 p3 => ?_, fun a p1 p2 => ?_, fun _ => rfl⟩
      · rw [gi_sa, gi_si, if_neg p2, gi_si, if_neg p1, gi_si, if_neg p3]
      · rw [ga_sa, if_neg p2]; rfl
    obtain ⟨s1, e1, q1, q2⟩ := enter_ok (n := n) (s := sa (si (si (si σ 16 1) 14 0) 15 0) 11 (fun _ => 0)) (xs := []) hn ⟨rfl, rfl, rfl, by simp, fun k k' hk => absurd hk (by simp), fun k hk => absurd hk (by simp), fun q _ => Or.inl rfl, fun q q' k _ _ e => by exact fun _ hk => absurd hk (by simp), fun k hk => absurd hk (by simp)⟩ (gi σ 1)
    rw [e1, bd_e]
    have ea : addS [] (gi σ 1) = some [gi σ 1] := rfl
    rw [ea] at q2
    obtain ⟨s2, e2, p1, p2⟩ := bfs_C hn h.1.2.1 h.1.1 301 0 n [gi σ 1] s1 (by omega) (by omega) (by simp) (s0.tr q1) q2 (BR_start _ _ _ _ _)
    have e2' : LX6_explore_38 n (fun σ19 => some σ19) n s1 0 = some s2 := e2
    have hR : ReachP c (ga s2 0) (ga s2 1) (ga s2 2) (gi s2 1) (gi s2 14) (gi s2 15) (ga s2 10) (ga s2 11) := by
      rw [p1.2.1 0 (by omega) (by omega), p1.2.1 1 (by omega) (by omega), p1.2.1 2 (by omega) (by omega), p1.1 1 (by omega) (by omega) (by omega)]
      unfold ReachP reachS
      obtain ⟨_, p2⟩ := p2
      generalize bfs c (ga σ 0) (ga σ 1) (ga σ 2) 301 0 [gi σ 1] = o at p2 ⊢
      cases o with
      | none => exact p2
      | some xs => exact ⟨p2.1, p2.2.1, p2.2.2.2.2.1, p2.2.2.2.2.2⟩
    refine ⟨s2, e2', ?_, p2.1, hR, p1⟩
    have g : ∀ k, k ≠ 14 → k ≠ 15 → k ≠ 16 → gi s2 k = gi σ k := p1.1
    have i0 := g 0 (by decide) (by decide) (by decide); have i1 := g 1 (by decide) (by decide) (by decide); have i2 := g 2 (by decide) (by decide) (by decide); have i3 := g 3 (by decide) (by decide) (by decide)
    have i4 := g 4 (by decide) (by decide) (by decide); have i5 := g 5 (by decide) (by decide) (by decide); have i6 := g 6 (by decide) (by decide) (by decide)
    have i18 := g 18 (by decide) (by decide) (by decide); have i19 := g 19 (by decide) (by decide) (by decide)
    have i33 := g 33 (by decide) (by decide) (by decide); have i34 := g 34 (by decide) (by decide) (by decide); have i35 := g 35 (by decide) (by decide) (by decide); have i36 := g 36 (by decide) (by decide) (by decide); have i37 := g 37 (by decide) (by decide) (by decide); have i38 := g 38 (by decide) (by decide) (by decide)
    have ge : ∀ a, a ≠ 10 → a ≠ 11 → ga s2 a = ga σ a := p1.2.1
    have a0 := ge 0 (by decide) (by decide); have a1 := ge 1 (by decide) (by decide); have a2 := ge 2 (by decide) (by decide); have a3 := ge 3 (by decide) (by decide); have a4 := ge 4 (by decide) (by decide); have a5 := ge 5 (by decide) (by decide); have a6 := ge 6 (by decide) (by decide); have a7 := ge 7 (by decide) (by decide)
    have a17 := ge 17 (by decide) (by decide); have a18 := ge 18 (by decide) (by decide); have a19 := ge 19 (by decide) (by decide); have a20 := ge 20 (by decide) (by decide)
    have hcach : Cach c s2 := Or.inr ⟨p2.1, hR, Or.inl ⟨i18.trans c2, i19.trans c3⟩⟩
    obtain ⟨r1, r2, r3, r4, r5, r6, r7, r8, _⟩ := h
    refine ⟨?_, ?_, ?_, ?_, ?_, ?_, ?_, ?_, hcach⟩
    · simp only [Num, i1, i2, i3, i4, i6]; exact r1
    · simp only [Tab, a0, a1, a2, a3, a4, a5, a6]; exact r2
    · simp only [WfA, a0, a1, a2, a3, a4, a5, a6, a7]; exact r3
    · rw [i5]; exact r4
    · rw [a17]; exact r5
    · simp only [Trc, i0, a18]; exact r6
    · simp only [Shf, a19, a20, p1.2.2]; exact r7
    · simp only [Img, Tab, a0, a1, a2, a3, a4, a5, a6, i33, i34, i35, i36, i37, i38]; exact r8
  · rw [c1, if_neg one_ne]
    exact ⟨σ, rfl, h, c1, c2, SamR.rf σ⟩
