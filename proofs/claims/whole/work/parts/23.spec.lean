/-! WHAT IS MEANT: reached states as a row, hashed places, weights, best rows; and the invariant Rel between the two sides -/
def addS (xs : List Int32) (y : Int32) : Option (List Int32) := if y ∈ xs then some xs else if xs.length < 300 then some (xs ++ [y]) else none
def rowS (c : Nat) (nd mk ud : Nat → Int32) (x : Int32) (xs : List Int32) : Option (List Int32) :=
  fo (fun a o => match o with | none => none | some xs => if sub (nd a) x then addS xs (aft (ud a) (mk a) x) else some xs) c (some xs)
def bfs (c : Nat) (nd mk ud : Nat → Int32) : Nat → Nat → List Int32 → Option (List Int32)
  | 0, _, xs => some xs
  | f + 1, k, xs => if k < xs.length then (match rowS c nd mk ud (xs.getD k 0) xs with | none => none | some ys => bfs c nd mk ud f (k + 1) ys) else some xs
def reachS (c : Nat) (nd mk ud : Nat → Int32) (start : Int32) : Option (List Int32) := bfs c nd mk ud 301 0 [start]
/-- the hashed slot of a state -/
def hsh (x : Int32) : Nat := ((x * (-1640531535)).toUInt32 >>> ((22 : Int32).toUInt32 &&& Int32.toUInt32 31)).toInt32.toNatClampNeg
def HashP (sl : Nat → Int32) (xs : List Int32) : Prop :=
  (∀ q, q < 1024 → sl q = 0 ∨ ∃ k, k < xs.length ∧ sl q = nI (k + 1)) ∧
  (∀ q q' k, q < 1024 → q' < 1024 → sl q = nI (k + 1) → sl q' = nI (k + 1) → k < xs.length → q = q') ∧
  (∀ k, k < xs.length → ∃ t, t < 1024 ∧ sl ((hsh (xs.getD k 0) + t) % 1024) = nI (k + 1) ∧ ∀ t', t' < t → sl ((hsh (xs.getD k 0) + t') % 1024) ≠ 0)
def ReachP (c : Nat) (nd mk ud : Nat → Int32) (start rc tm : Int32) (st sl : Nat → Int32) : Prop :=
  match reachS c nd mk ud start with
  | none => tm = 1
  | some xs => tm = 0 ∧ rc = nI xs.length ∧ (∀ k, k < xs.length → st k = xs.getD k 0) ∧ HashP sl xs
/-- an action leads from the k-th to the k'-th -/
def Ed (c : Nat) (nd mk ud : Nat → Int32) (N : Nat) (st : Nat → Int32) (k a k' : Nat) : Prop := k < N ∧ a < c ∧ sub (nd a) (st k) ∧ k' < N ∧ st k' = aft (ud a) (mk a) (st k)
def cn (co : Nat → Int32) (a : Nat) : Nat := (co a).toNatClampNeg
def wt (co : Nat → Int32) (a : Nat) : Nat := 1000 * cn co a + 1
def MeasP (c : Nat) (nd mk ud co : Nat → Int32) (N : Nat) (st : Nat → Int32) (W : Nat → Nat) (we od : Nat → Int32) (fc : Int32) : Prop :=
  fc = nI N ∧ (∀ k, k < N → we k = nI (W k)) ∧ W 0 = 0 ∧ (∀ k a k', Ed c nd mk ud N st k a k' → W k' ≤ W k + wt co a) ∧
  (∀ k, k < N → k = 0 ∨ ∃ j a, Ed c nd mk ud N st j a k ∧ W k = W j + wt co a) ∧ (∀ k, k < N → W k % 1000 ≤ 300 ∧ W k ≤ 100000000) ∧
  ∃ o : Nat → Nat, (∀ i, i < N → od i = nI (o i) ∧ o i < N) ∧ (∀ k, k < N → ∃ i, i < N ∧ o i = k) ∧ ∀ i j, i < j → j < N → W (o i) ≤ W (o j)
def ChoP (c : Nat) (nd mk ud co : Nat → Int32) (N : Nat) (st : Nat → Int32) (goal : Int32) (W : Nat → Nat) (fd pl pc : Int32) (pn : Nat → Int32) : Prop :=
  (fd = 0 ∧ ∀ k, k < N → ¬ sub goal (st k)) ∨
  (fd = 1 ∧ ∃ D, (∃ g, g < N ∧ sub goal (st g) ∧ W g = D) ∧ (∀ g, g < N → sub goal (st g) → D ≤ W g) ∧ pc = nI (D / 1000) ∧ pl = nI (D % 1000) ∧
    ∃ OB : Nat → Prop, (∀ k, k < N → (OB k ↔ (W k = D ∧ sub goal (st k)) ∨ (W k < D ∧ ∃ a k', Ed c nd mk ud N st k a k' ∧ W k' = W k + wt co a ∧ OB k'))) ∧
      ∃ v p : Nat → Nat, v 0 = 0 ∧ ∀ i, i < D % 1000 → pn i = nI (p i) ∧ Ed c nd mk ud N st (v i) (p i) (v (i + 1)) ∧ W (v (i + 1)) = W (v i) + wt co (p i) ∧ OB (v (i + 1)) ∧
        ∀ a k', a < p i → Ed c nd mk ud N st (v i) a k' → ¬ (W k' = W (v i) + wt co a ∧ OB k'))
/-- what the class has kept of its search -/
def CachP (c : Nat) (nd mk ud co : Nat → Int32) (start goal rc tm fr fc ms ch fd pl pc : Int32) (st sl we od pn : Nat → Int32) : Prop :=
  (fr = 0 ∧ ms = 0 ∧ ch = 0) ∨
  (fr = 1 ∧ ReachP c nd mk ud start rc tm st sl ∧ ((ms = 0 ∧ ch = 0) ∨ (ms = 1 ∧ tm = 0 ∧ ∃ (N : Nat) (W : Nat → Nat), N ≤ 300 ∧ rc = nI N ∧ MeasP c nd mk ud co N st W we od fc ∧ (ch = 0 ∨ (ch = 1 ∧ ChoP c nd mk ud co N st goal W fd pl pc pn)))))
def Cach (c : Nat) (σ : SC) : Prop := CachP c (ga σ 0) (ga σ 1) (ga σ 2) (ga σ 3) (gi σ 1) (gi σ 2) (gi σ 14) (gi σ 15) (gi σ 16) (gi σ 17) (gi σ 18) (gi σ 19) (gi σ 20) (gi σ 21) (gi σ 22) (ga σ 10) (ga σ 11) (ga σ 12) (ga σ 13) (ga σ 15)
/-- the two tables of actions -/
def Tab (c : Nat) (f : Nat → Int32) (σ : SC) : Prop := ∀ a, a < c → f a = ga σ 0 a ∧ f (24 + a) = ga σ 1 a ∧ f (48 + a) = ga σ 2 a ∧ f (72 + a) = ga σ 3 a ∧ f (96 + a) = ga σ 4 a ∧ f (120 + a) = ga σ 5 a ∧ f (144 + a) = ga σ 6 a
def WfA (σ : SC) (a : Nat) : Prop := s30 (ga σ 0 a) ∧ s30 (ga σ 1 a) ∧ s30 (ga σ 2 a) ∧ (∃ k, 1 ≤ k ∧ k ≤ 99 ∧ ga σ 3 a = nI k) ∧
  ((ga σ 4 a = 0 ∧ ga σ 5 a = -1 ∧ ga σ 6 a = -1 ∧ ga σ 7 a = 1) ∨ ∃ i j, i < a ∧ j < a ∧ ga σ 5 a = nI i ∧ ga σ 6 a = nI j ∧ ga σ 7 a = ga σ 7 i + ga σ 7 j ∧ (ga σ 4 a = 1 ∨ ga σ 4 a = 2))
def Shf (c : Nat) (σ τ : SC) (j : Nat) : Prop :=
  (ga σ 20 j = -1 ∧ ga τ 3 j = -1) ∨ (∃ a, a < c ∧ ga σ 20 j = nI a ∧ ga τ 3 j = 4 ∧ ga τ 4 j = nI a) ∨
  (∃ k n, k < 4 ∧ n ≤ 160 ∧ ga σ 20 j = nI (100 + k) ∧ ga τ 3 j = nI k ∧ ga σ 19 j = nI n ∧ ga τ 4 j = nI n ∧ ∀ i, i < n → gl τ 0 (160 * j + i) = gl σ j i)
def Img (c : Nat) (σ τ : SC) : Prop :=
  (gi σ 33 = 0 ∧ gi τ 1 = 0) ∨ (gi σ 33 = 1 ∧ gi τ 1 = 1 ∧ ∃ ci, ci ≤ c ∧ gi σ 34 = nI ci ∧ ga τ 1 172 = nI ci ∧ Tab ci (ga τ 1) σ ∧ gi σ 35 = ga τ 1 168 ∧ s30 (gi σ 35) ∧ gi σ 36 = ga τ 1 169 ∧ s30 (gi σ 36) ∧ gi σ 37 = ga τ 1 170 ∧ s30 (gi σ 37) ∧ gi σ 38 = ga τ 1 171)
def Num (c : Nat) (σ τ : SC) : Prop := c ≤ 24 ∧ gi σ 6 = nI c ∧ ga τ 0 172 = nI c ∧ gi σ 1 = ga τ 0 168 ∧ s30 (gi σ 1) ∧ gi σ 2 = ga τ 0 169 ∧ s30 (gi σ 2) ∧ gi σ 3 = ga τ 0 170 ∧ s30 (gi σ 3) ∧ gi σ 4 = ga τ 0 171
def Trc (σ τ : SC) : Prop := ∃ t, t ≤ 40 ∧ gi σ 0 = nI t ∧ gi τ 12 = nI t ∧ ∀ i, i < t → ga σ 18 i = ga τ 13 i
def RelC (c : Nat) (σ τ : SC) : Prop :=
  Num c σ τ ∧ Tab c (ga τ 0) σ ∧ (∀ a, a < c → WfA σ a) ∧ gi σ 5 = gi τ 5 ∧ (∀ k, k < 7 → ga σ 17 k = ga τ 2 (k + 1)) ∧ Trc σ τ ∧ (∀ j, j < 8 → Shf c σ τ j) ∧ Img c σ τ ∧ Cach c σ
def Rel (σ τ : SC) : Prop := ∃ c, RelC c σ τ
theorem rel_start : Rel σ0C τ0M := by
  refine ⟨0, ⟨by decide, rfl, rfl, rfl, s30_0, rfl, s30_0, rfl, s30_0, rfl⟩, fun a h => absurd h (by omega), fun a h => absurd h (by omega), rfl, ?_, ⟨0, by decide, rfl, rfl, fun i h => absurd h (by omega)⟩, ?_, Or.inl ⟨rfl, rfl⟩, Or.inl ⟨rfl, rfl, rfl⟩⟩
  · intro k hk
    match k, hk with
    | 0, _ => rfl
    | 1, _ => rfl
    | 2, _ => rfl
    | 3, _ => rfl
    | 4, _ => rfl
    | 5, _ => rfl
    | 6, _ => rfl
  · intro j hj
    refine Or.inl ?_
    match j, hj with
    | 0, _ => exact ⟨rfl, rfl⟩
    | 1, _ => exact ⟨rfl, rfl⟩
    | 2, _ => exact ⟨rfl, rfl⟩
    | 3, _ => exact ⟨rfl, rfl⟩
    | 4, _ => exact ⟨rfl, rfl⟩
    | 5, _ => exact ⟨rfl, rfl⟩
    | 6, _ => exact ⟨rfl, rfl⟩
    | 7, _ => exact ⟨rfl, rfl⟩
/-- what Rel reads of the class's numbers -/
def SameC (σ σ1 : SC) : Prop := (∀ k, k ∈ [0, 1, 2, 3, 4, 5, 6, 14, 15, 16, 17, 18, 19, 20, 21, 22, 33, 34, 35, 36, 37, 38] → gi σ1 k = gi σ k) ∧ (∀ a, a ∈ [0, 1, 2, 3, 4, 5, 6, 7, 10, 11, 12, 13, 15, 17, 18, 19, 20] → ga σ1 a = ga σ a) ∧ ∀ j, gl σ1 j = gl σ j
def SameM (τ τ1 : SC) : Prop := (∀ k, k ∈ [1, 5, 12] → gi τ1 k = gi τ k) ∧ (∀ a, a ∈ [0, 1, 2, 3, 4, 13] → ga τ1 a = ga τ a) ∧ gl τ1 0 = gl τ 0
theorem SameC.rf (σ : SC) : SameC σ σ := ⟨fun _ _ => rfl, fun _ _ => rfl, fun _ => rfl⟩
theorem SameM.rf (σ : SC) : SameM σ σ := ⟨fun _ _ => rfl, fun _ _ => rfl, rfl⟩
theorem SameC.tr {a b c : SC} (h : SameC a b) (h2 : SameC b c) : SameC a c := ⟨fun k hk => (h2.1 k hk).trans (h.1 k hk), fun k hk => (h2.2.1 k hk).trans (h.2.1 k hk), fun j => (h2.2.2 j).trans (h.2.2 j)⟩
theorem SameM.tr {a b c : SC} (h : SameM a b) (h2 : SameM b c) : SameM a c := ⟨fun k hk => (h2.1 k hk).trans (h.1 k hk), fun k hk => (h2.2.1 k hk).trans (h.2.1 k hk), h2.2.2.trans h.2.2⟩
theorem RelC.sameC {c : Nat} {σ σ1 τ : SC} (h : RelC c σ τ) (e : SameC σ σ1) : RelC c σ1 τ := by
  obtain ⟨e1, e2, e3⟩ := e
  have i0 := e1 0 (by decide); have i1 := e1 1 (by decide); have i2 := e1 2 (by decide); have i3 := e1 3 (by decide); have i4 := e1 4 (by decide); have i5 := e1 5 (by decide); have i6 := e1 6 (by decide)
  have i14 := e1 14 (by decide); have i15 := e1 15 (by decide); have i16 := e1 16 (by decide); have i17 := e1 17 (by decide); have i18 := e1 18 (by decide); have i19 := e1 19 (by decide); have i20 := e1 20 (by decide); have i21 := e1 21 (by decide); have i22 := e1 22 (by decide)
  have i33 := e1 33 (by decide); have i34 := e1 34 (by decide); have i35 := e1 35 (by decide); have i36 := e1 36 (by decide); have i37 := e1 37 (by decide); have i38 := e1 38 (by decide)
  have a0 := e2 0 (by decide); have a1 := e2 1 (by decide); have a2 := e2 2 (by decide); have a3 := e2 3 (by decide); have a4 := e2 4 (by decide); have a5 := e2 5 (by decide); have a6 := e2 6 (by decide); have a7 := e2 7 (by decide)
  have a10 := e2 10 (by decide); have a11 := e2 11 (by decide); have a12 := e2 12 (by decide); have a13 := e2 13 (by decide); have a15 := e2 15 (by decide); have a17 := e2 17 (by decide); have a18 := e2 18 (by decide); have a19 := e2 19 (by decide); have a20 := e2 20 (by decide)
  simp only [RelC, Num, Tab, WfA, Trc, Shf, Img, Cach, i0, i1, i2, i3, i4, i5, i6, i14, i15, i16, i17, i18, i19, i20, i21, i22, i33, i34, i35, i36, i37, i38, a0, a1, a2, a3, a4, a5, a6, a7, a10, a11, a12, a13, a15, a17, a18, a19, a20, e3] at h ⊢
  exact h
theorem RelC.sameM {c : Nat} {σ τ τ1 : SC} (h : RelC c σ τ) (e : SameM τ τ1) : RelC c σ τ1 := by
  obtain ⟨e1, e2, e3⟩ := e
  have i1 := e1 1 (by decide); have i5 := e1 5 (by decide); have i12 := e1 12 (by decide)
  have a0 := e2 0 (by decide); have a1 := e2 1 (by decide); have a2 := e2 2 (by decide); have a3 := e2 3 (by decide); have a4 := e2 4 (by decide); have a13 := e2 13 (by decide)
  simp only [RelC, Num, Tab, WfA, Trc, Shf, Img, Cach, i1, i5, i12, a0, a1, a2, a3, a4, a13, e3] at h ⊢
  exact h
/-! refusals -/
def rfC (σ : SC) (k : Nat) : SC := sa σ 17 (upd (ga σ 17) k (ga σ 17 k + 1))
def rfM (τ : SC) (k : Nat) : SC := sa τ 2 (upd (ga τ 2) (k + 1) (ga τ 2 (k + 1) + 1))
theorem refuse_C (σ : SC) (k : Nat) (hk : k < 7) {x : Int32} (hx : x = -nI (k + 1)) : f_X11_refuse σ x = some (x, rfC σ k) := by
  subst hx
  have e : -(-nI (k + 1)) - 1 = nI k := by rw [Int32.neg_neg]; exact nI_pred k
  unfold f_X11_refuse
  simp only [lt_e, e]
  rw [if_neg (nI_pos (by omega)), if_neg (show ¬ ((7 : Int32) ≤ nI k) from nI_ge (b := 7) (by omega) (by omega)), ld_n k rfl hk (by omega), ck_n k rfl hk (by omega), nI_clamp (by omega)]
  rfl
theorem refuse_S (σ : SC) (k : Nat) (hk : k < 7) {x : Int32} (hx : x = -nI (k + 1)) : f_X11_refuseShifted σ x = some (x + (-10), rfC σ k) := by
  unfold f_X11_refuseShifted
  rw [refuse_C σ k hk hx]
  rfl
theorem refused_M (τ : SC) (k : Nat) (hk : k < 7) {x : Int32} (hx : x = -nI (k + 1)) : f_X12_refused τ x = some (x, rfM τ k) := by
  subst hx
  unfold f_X12_refused
  simp only [lt_e, Int32.neg_neg]
  rw [ld_n (k + 1) rfl (by omega) (by omega), ck_n (k + 1) rfl (by omega) (by omega), nI_clamp (by omega)]
  rfl
theorem refusedB_M (τ : SC) (k : Nat) (hk : k < 7) {x : Int32} (hx : x = -nI (k + 1)) : f_X12_refusedBelow τ x = some (x - 10, rfM τ k) := by
  subst hx
  unfold f_X12_refusedBelow
  simp only [lt_e, Int32.neg_neg]
  rw [ld_n (k + 1) rfl (by omega) (by omega), ck_n (k + 1) rfl (by omega) (by omega), nI_clamp (by omega)]
  rfl
theorem RelC.ref {c : Nat} {σ τ : SC} (h : RelC c σ τ) (k : Nat) : RelC c (rfC σ k) (rfM τ k) := by
  obtain ⟨h1, h2, h3, h4, h5, h6⟩ := h
  refine ⟨h1, h2, h3, h4, fun i hi => ?_, h6⟩
  show upd (ga σ 17) k (ga σ 17 k + 1) i = upd (ga τ 2) (k + 1) (ga τ 2 (k + 1) + 1) (i + 1)
  rw [ud_s, ud_s]
  by_cases e : i = k
  · subst e; rw [if_pos rfl, if_pos rfl, h5 i hi]
  · rw [if_neg e, if_neg (by omega), h5 i hi]
