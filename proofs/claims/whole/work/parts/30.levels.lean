/-! LEVELS -/
def mf (c : Nat) (nd mk : Nat → Int32) (x : Int32) : Int32 := fo (fun a y => if sub (nd a) x then y ||| mk a else y) c 0
def nx (c : Nat) (nd mk : Nat → Int32) (w x : Int32) : Int32 := x ||| (mf c nd mk x &&& (w ^^^ (-1)))
def lv (c : Nat) (nd mk : Nat → Int32) (w x : Int32) : Nat → Int32
  | 0 => x &&& (w ^^^ (-1))
  | k + 1 => nx c nd mk w (lv c nd mk w x k)
theorem mf_30 {c : Nat} {nd mk : Nat → Int32} (hm : ∀ a, a < c → s30 (mk a)) (x : Int32) : s30 (mf c nd mk x) := by
  refine fo_inv (fun _ y => s30 y) s30_0 (fun i y hi hy => ?_)
  by_cases q : sub (nd i) x
  · rw [if_pos q]; exact s30_or hy (hm i hi)
  · rw [if_neg q]; exact hy
theorem nx_30 {c : Nat} {nd mk : Nat → Int32} (hm : ∀ a, a < c → s30 (mk a)) {w x : Int32} (hx : s30 x) : s30 (nx c nd mk w x) := s30_or hx (s30_and (mf_30 hm x))
theorem lv_30 {c : Nat} {nd mk : Nat → Int32} (hm : ∀ a, a < c → s30 (mk a)) {w x : Int32} (hx : s30 x) : ∀ k, s30 (lv c nd mk w x k)
  | 0 => s30_and hx
  | k + 1 => nx_30 hm (lv_30 hm hx k)
theorem nx_up {c : Nat} {nd mk : Nat → Int32} {w x : Int32} {i : Nat} (h : bt x i = true) : bt (nx c nd mk w x) i = true := by
  unfold nx; rw [b_or, h]; rfl
def cb (x : Int32) : Nat → Nat
  | 0 => 0
  | n + 1 => cb x n + (if bt x n = true then 1 else 0)
theorem cb_le (x : Int32) : ∀ n, cb x n ≤ n
  | 0 => Nat.le_refl 0
  | n + 1 => by
    have := cb_le x n
    show cb x n + _ ≤ _
    split
    · omega
    · omega
theorem cb_all {x : Int32} : ∀ {n}, n ≤ cb x n → ∀ i, i < n → bt x i = true
  | n + 1, h, i, hi => by
    have h1 := cb_le x n
    have h2 : n + 1 ≤ cb x n + (if bt x n = true then 1 else 0) := h
    by_cases q : bt x n = true
    · rw [if_pos q] at h2
      by_cases e : i = n
      · subst e; exact q
      · exact cb_all (n := n) (by omega) i (by omega)
    · rw [if_neg q] at h2; omega
theorem cb_mono {x y : Int32} : ∀ {n}, (∀ i, i < n → bt x i = true → bt y i = true) → cb x n ≤ cb y n
  | 0, _ => Nat.le_refl 0
  | n + 1, h => by
    have h1 := cb_mono (n := n) (fun i hi => h i (by omega))
    show cb x n + _ ≤ cb y n + _
    by_cases q : bt x n = true
    · rw [if_pos q, if_pos (h n (by omega) q)]; omega
    · rw [if_neg q]; omega
theorem cb_lt {x y : Int32} : ∀ {n}, (∀ i, i < n → bt x i = true → bt y i = true) → (∃ i, i < n ∧ bt y i = true ∧ bt x i = false) → cb x n < cb y n
  | 0, _, ⟨i, hi, _⟩ => by omega
  | n + 1, h, ⟨i, hi, hy, hx⟩ => by
    have hm := cb_mono (n := n) (fun i hi => h i (by omega))
    show cb x n + _ < cb y n + _
    by_cases e : i = n
    · subst e
      rw [hx, hy, if_neg (by decide), if_pos rfl]; omega
    · have h1 := cb_lt (n := n) (fun i hi => h i (by omega)) ⟨i, by omega, hy, hx⟩
      by_cases q : bt x n = true
      · rw [if_pos q, if_pos (h n (by omega) q)]; omega
      · rw [if_neg q]; omega
/-- two sets that differ, one in the other -/
theorem s30_diff {x y : Int32} (hx : s30 x) (hy : s30 y) (h : ∀ i, bt x i = true → bt y i = true) (hne : y ≠ x) : ∃ i, i < 30 ∧ bt y i = true ∧ bt x i = false := by
  refine Classical.byContradiction fun hno => hne (b_ext fun i hi => ?_)
  cases hyi : bt y i with
  | false =>
    cases hxi : bt x i with
    | false => rfl
    | true => rw [h i hxi] at hyi; cases hyi
  | true =>
    cases hxi : bt x i with
    | true => rfl
    | false => exact absurd ⟨i, s30_bit hy hyi, hyi, hxi⟩ hno
theorem lv_cb {c : Nat} {nd mk : Nat → Int32} (hm : ∀ a, a < c → s30 (mk a)) {w x : Int32} (hx : s30 x) : ∀ k, (∀ j, j < k → lv c nd mk w x (j + 1) ≠ lv c nd mk w x j) → k ≤ cb (lv c nd mk w x k) 30
  | 0, _ => Nat.zero_le _
  | k + 1, h => by
    have h1 := lv_cb hm hx k (fun j hj => h j (by omega))
    have h2 := cb_lt (n := 30) (x := lv c nd mk w x k) (y := lv c nd mk w x (k + 1)) (fun i _ hi => nx_up hi) (s30_diff (lv_30 hm hx k) (lv_30 hm hx (k + 1)) (fun i hi => nx_up hi) (h k (by omega)))
    omega
theorem lv_stab {c : Nat} {nd mk : Nat → Int32} (hm : ∀ a, a < c → s30 (mk a)) {w x : Int32} (hx : s30 x) : ∃ L, L ≤ 30 ∧ (∀ j, j < L → lv c nd mk w x (j + 1) ≠ lv c nd mk w x j) ∧ ∀ k, L ≤ k → lv c nd mk w x k = lv c nd mk w x L := by
  have ex : ∃ k, k ≤ 30 ∧ lv c nd mk w x (k + 1) = lv c nd mk w x k := by
    refine Classical.byContradiction fun hno => ?_
    have h1 := lv_cb hm hx 30 (fun j hj e => hno ⟨j, by omega, e⟩)
    refine hno ⟨30, Nat.le_refl 30, b_ext fun i hi => ?_⟩
    rcases Nat.lt_or_ge i 30 with q | q
    · have := cb_all h1 i q
      rw [this]; exact nx_up this
    · rw [s30_b.mp (lv_30 hm hx 31) i q hi, s30_b.mp (lv_30 hm hx 30) i q hi]
  obtain ⟨k, hk, he⟩ := ex
  obtain ⟨L, hL, hmin⟩ := pk_least (fun k => lv c nd mk w x (k + 1) = lv c nd mk w x k) ⟨k, he⟩
  refine ⟨L, ?_, hmin, ?_⟩
  · rcases Nat.lt_or_ge k L with q | q
    · exact absurd he (hmin k q)
    · omega
  · intro m hm'
    obtain ⟨d, rfl⟩ : ∃ d, m = L + d := ⟨m - L, by omega⟩
    clear hm'
    induction d with
    | zero => rfl
    | succ d ih =>
      show nx c nd mk w (lv c nd mk w x (L + d)) = _
      rw [ih]; exact hL
theorem nx_cong {c : Nat} {nd mk nd' mk' : Nat → Int32} (h : ∀ a, a < c → nd' a = nd a ∧ mk' a = mk a) (w x : Int32) : nx c nd' mk' w x = nx c nd mk w x := by
  unfold nx mf
  rw [fo_cong (fun i y hi => by rw [(h i hi).1, (h i hi).2])]
/-! the class -/
theorem made_C {σ : SC} {c n : Nat} (h24 : c ≤ 24) (hc : gi σ 6 = nI c) (hn : 100 < n) (x : Int32) : f_X3_madeFrom n σ x = some (mf c (ga σ 0) (ga σ 1) x) := by
  unfold f_X3_madeFrom
  refine (loop_fo (L := fun f i y => LX3_madeFrom_4 σ x (fun w6 => some w6) f y (nI i)) (K := fun w6 => some w6) (g := fun a y => if sub (ga σ 0 a) x then y ||| ga σ 1 a else y) (c := c) (n := n) (x := 0) (fun _ _ => True) (by omega) trivial ?_ ?_).1
  · intro f y _
    show (if gi σ 6 ≤ nI c then _ else _) = _
    rw [if_pos (by rw [hc]; exact nI_le (Nat.le_refl c) (by omega))]
  · intro f i y hi _
    refine ⟨?_, trivial⟩
    show (if gi σ 6 ≤ nI i then _ else _) = _
    rw [hc, if_neg (nI_ge hi (by omega)), allowed_C (by omega), bd_e, nI_p1]
    by_cases q : sub (ga σ 0 i) x
    · rw [if_pos q, if_neg one_ne, ldA (by omega)]; simp only [if_pos q, lt_e]
    · rw [if_neg q, if_pos rfl]; simp only [if_neg q, lt_e]
def SprS (σ s : SC) : Prop := (∀ k, k ≠ 7 → gi s k = gi σ k) ∧ (∀ a, a ≠ 8 → ga s a = ga σ a) ∧ ∀ j, gl s j = gl σ j
theorem SprS.same {σ s : SC} (h : SprS σ s) : SameC σ s :=
  ⟨fun k hk => h.1 k (fun e => by subst e; exact absurd hk (by decide)), fun a ha => h.2.1 a (fun e => by subst e; exact absurd ha (by decide)), h.2.2⟩
theorem spread_L {σ : SC} {c n L : Nat} {w x : Int32} (h24 : c ≤ 24) (hc : gi σ 6 = nI c) (hn : 100 < n) (hL : L ≤ 30) (hmin : ∀ j, j < L → lv c (ga σ 0) (ga σ 1) w x (j + 1) ≠ lv c (ga σ 0) (ga σ 1) w x j) (hst : ∀ k, L ≤ k → lv c (ga σ 0) (ga σ 1) w x k = lv c (ga σ 0) (ga σ 1) w x L) (K : SC → Option SC) :
    ∀ (d f : Nat) (s : SC) (k : Nat), k + d = L → d < f → SprS σ s → gi s 7 = nI k → (∀ j, j ≤ k → ga s 8 j = lv c (ga σ 0) (ga σ 1) w x j) → ∃ s', LX3_spread_18 n w K f s (nI k) = K s' ∧ SprS σ s' ∧ gi s' 7 = nI L ∧ ∀ j, j ≤ L → ga s' 8 j = lv c (ga σ 0) (ga σ 1) w x j := by
  intro d
  induction d with
  | zero =>
    intro f s k hkd hf hS h7 hv
    obtain ⟨f, rfl⟩ : ∃ f', f = f' + 1 := ⟨f - 1, by omega⟩
    have e : k = L := by omega
    subst e
    refine ⟨s, ?_, hS, h7, hv⟩
    rw [LX3_spread_18]
    by_cases q : (30 : Int32) ≤ nI k
    · rw [if_pos q]
    · have hk : k < 30 := by
        rcases Nat.lt_or_ge k 30 with q2 | q2
        · exact q2
        · exact absurd (nI_le (a := 30) q2 (by omega)) q
      rw [if_neg q]
      simp only [ld_n (i := nI k) k rfl (show k < 31 by omega) (by omega), made_C h24 (by rw [hS.1 6 (by decide), hc]) hn, bd_e, lt_e]
      rw [hS.2.1 0 (by decide), hS.2.1 1 (by decide), hv k (Nat.le_refl k), if_pos]
      exact hst (k + 1) (by omega)
  | succ d ih =>
    intro f s k hkd hf hS h7 hv
    obtain ⟨f, rfl⟩ : ∃ f', f = f' + 1 := ⟨f - 1, by omega⟩
    rw [LX3_spread_18, if_neg (show ¬ (30 : Int32) ≤ nI k from nI_ge (b := 30) (by omega) (by omega))]
    simp only [ld_n (i := nI k) k rfl (show k < 31 by omega) (by omega), made_C h24 (by rw [hS.1 6 (by decide), hc]) hn, bd_e, lt_e, gi_si, if_true, nI_p1, ck_n (i := nI (k + 1)) (n := 31) (k + 1) rfl (by omega) (by omega), nI_clamp (show k + 1 < 2 ^ 31 by omega)]
    have hk' : ¬ (lv c (ga σ 0) (ga σ 1) w x k ||| (mf c (ga σ 0) (ga σ 1) (lv c (ga σ 0) (ga σ 1) w x k) &&& (w ^^^ (-1)))) = lv c (ga σ 0) (ga σ 1) w x k := hmin k (by omega)
    rw [hS.2.1 0 (by decide), hS.2.1 1 (by decide), hv k (Nat.le_refl k), if_neg hk']
    refine ih f _ (k + 1) (by omega) (by omega) ⟨fun q hq => ?_, fun q hq => ?_, fun q => hS.2.2 q⟩ rfl (fun j hj => ?_)
    · rw [gi_sa, gi_si, if_neg hq, hS.1 q hq]
    · rw [ga_sa, if_neg hq, ga_si, hS.2.1 q hq]
    · rw [ga_sa, if_pos rfl, ud_s]
      by_cases e : j = k + 1
      · rw [if_pos e, e]; rfl
      · rw [if_neg e]; exact hv j (by omega)
theorem spread_C {σ : SC} {c n : Nat} (h24 : c ≤ 24) (hc : gi σ 6 = nI c) (hn : 100 < n) (hm : ∀ a, a < c → s30 (ga σ 1 a)) (w : Int32) {x : Int32} (hx : s30 x) :
    ∃ s L, f_X3_spread n σ x w = some s ∧ SprS σ s ∧ gi s 7 = nI L ∧ L ≤ 30 ∧ (∀ k, k ≤ L → ga s 8 k = lv c (ga σ 0) (ga σ 1) w x k) ∧ ∀ k, L ≤ k → lv c (ga σ 0) (ga σ 1) w x k = lv c (ga σ 0) (ga σ 1) w x L := by
  obtain ⟨L, hL, hmin, hst⟩ := lv_stab (nd := ga σ 0) hm (w := w) hx
  unfold f_X3_spread
  rw [lt_e, ck_n (n := 31) (i := 0) 0 rfl (by omega) (by omega), lt_e]
  obtain ⟨s', e1, e2, e3, e4⟩ := spread_L (σ := σ) (w := w) (x := x) h24 hc hn hL hmin hst (fun σ12 => some σ12) L n (sa (si σ 7 0) 8 (upd (ga (si σ 7 0) 8) (0 : Int32).toNatClampNeg (x &&& (w ^^^ (-1))))) 0 (by omega) (by omega) ⟨fun q hq => by rw [gi_sa, gi_si, if_neg hq], fun q hq => by rw [ga_sa, if_neg hq, ga_si], fun _ => rfl⟩ rfl (fun j hj => by
    rw [show j = 0 by omega]; exact ud_t (ga σ 8) 0 _)
  exact ⟨s', L, e1, e2, e3, hL, e4, hst⟩
/-- the first level that has all of g -/
def FW (l : Nat → Int32) (g r : Int32) : Prop := (∃ k, k ≤ 30 ∧ r = nI k ∧ sub g (l k) ∧ ∀ j, j < k → ¬ sub g (l j)) ∨ (r = -1 ∧ ∀ k, ¬ sub g (l k))
theorem FW.uniq {l : Nat → Int32} {g r r' : Int32} (h : FW l g r) (h' : FW l g r') : r = r' := by
  rcases h with ⟨k, h1, h2, h3, h4⟩ | ⟨h1, h2⟩
  · rcases h' with ⟨k', h1', h2', h3', h4'⟩ | ⟨h1', h2'⟩
    · rw [h2, h2']
      rcases Nat.lt_trichotomy k k' with q | q | q
      · exact absurd h3 (h4' k q)
      · rw [q]
      · exact absurd h3' (h4 k' q)
    · exact absurd h3 (h2' k)
  · rcases h' with ⟨k', h1', h2', h3', h4'⟩ | ⟨h1', h2'⟩
    · exact absurd h3' (h2 k')
    · rw [h1, h1']
theorem first_C {s : SC} {n L : Nat} {l : Nat → Int32} (hn : 100 < n) (hL : L ≤ 30) (h7 : gi s 7 = nI L) (hv : ∀ k, k ≤ L → ga s 8 k = l k) (hst : ∀ k, L ≤ k → l k = l L) (g : Int32) : ∃ r, f_X3_firstWith n s g = some r ∧ FW l g r := by
  have key : ∀ (d f k : Nat), k + d = L + 1 → d < f → (∀ j, j < k → ¬ sub g (l j)) → ∃ r, LX3_firstWith_2 s g (fun _ => some (-1)) f (nI k) = some r ∧ FW l g r := by
    intro d
    induction d with
    | zero =>
      intro f k hkd hf hno
      obtain ⟨f, rfl⟩ : ∃ f', f = f' + 1 := ⟨f - 1, by omega⟩
      refine ⟨-1, ?_, Or.inr ⟨rfl, fun j => ?_⟩⟩
      · rw [LX3_firstWith_2, h7, if_pos (nI_lt (by omega) (by omega))]
      · rcases Nat.lt_or_ge j k with q | q
        · exact hno j q
        · rw [hst j (by omega)]; exact hno L (by omega)
    | succ d ih =>
      intro f k hkd hf hno
      obtain ⟨f, rfl⟩ : ∃ f', f = f' + 1 := ⟨f - 1, by omega⟩
      rw [LX3_firstWith_2, h7, if_neg (nI_nlt (by omega) (by omega)), ld_n k rfl (by omega) (by omega), hv k (by omega), nI_p1, lt_e]
      by_cases q : sub g (l k)
      · rw [if_pos q]; exact ⟨nI k, rfl, Or.inl ⟨k, by omega, rfl, q, hno⟩⟩
      · rw [if_neg q]
        refine ih f (k + 1) (by omega) (by omega) (fun j hj => ?_)
        by_cases e : j = k
        · rw [e]; exact q
        · exact hno j (by omega)
  exact key (L + 1) n 0 (by omega) (by omega) (fun j hj => by omega)
/-! the reference -/
def TbM (c : Nat) (nd mk : Nat → Int32) (τ : SC) : Prop := ga τ 0 172 = nI c ∧ ∀ a, a < c → ga τ 0 a = nd a ∧ ga τ 0 (24 + a) = mk a
theorem next_M {τ : SC} {c n : Nat} {nd mk : Nat → Int32} (h24 : c ≤ 24) (ht : TbM c nd mk τ) (hn : 100 < n) (x w : Int32) : f_X12_nextLevel n τ x w = some (nx c nd mk w x) := by
  unfold f_X12_nextLevel
  have h1 := (loop_fo (L := fun f i y => LX12_nextLevel_5 τ x w (fun w9 => some w9) f y (nI i)) (K := fun w6 => some w6) (g := fun a y => if sub (nd a) x then y ||| (mk a &&& (w ^^^ (-1))) else y) (c := c) (n := n) (x := x) (fun _ _ => True) (by omega) trivial (by
      intro f y _
      show ld _ _ _ _ = _
      rw [ld172, ht.1, if_pos (nI_le (Nat.le_refl c) (by omega))]) (by
      intro f i y hi _
      refine ⟨?_, trivial⟩
      show ld _ _ _ _ = _
      rw [ld172, ht.1, if_neg (nI_ge hi (by omega)), mayBe_M (by omega), bd_e, nI_p1, (ht.2 i hi).1]
      by_cases q : sub (nd i) x
      · rw [if_pos q, if_neg one_ne, ld24 (by omega), (ht.2 i hi).2]; simp only [if_pos q, lt_e]
      · rw [if_neg q, if_pos rfl]; simp only [if_neg q, lt_e, or_0])).1
  refine h1.trans (congrArg some ?_)
  unfold nx mf
  refine fo_rel (fun _ y z => y = x ||| (z &&& (w ^^^ (-1)))) ?_ ?_
  · refine b_ext fun i hi => ?_
    rw [b_or, b_and, b_0]; simp
  · rintro i y z hi rfl
    by_cases q : sub (nd i) x
    · rw [if_pos q, if_pos q]
      refine b_ext fun i hi => ?_
      simp only [b_or, b_and]
      cases bt x i <;> cases bt z i <;> cases bt (w ^^^ (-1)) i <;> simp
    · rw [if_neg q, if_neg q]
theorem last_M {τ : SC} {c n : Nat} {nd mk : Nat → Int32} (h24 : c ≤ 24) (ht : TbM c nd mk τ) (hn : 100 < n) (hm : ∀ a, a < c → s30 (mk a)) (w : Int32) {x : Int32} (hx : s30 x) : ∃ L, L ≤ 30 ∧ f_X12_lastLevel n τ x w = some (lv c nd mk w x L) ∧ ∀ k, L ≤ k → lv c nd mk w x k = lv c nd mk w x L := by
  obtain ⟨L, hL, hmin, hst⟩ := lv_stab (nd := nd) hm (w := w) hx
  refine ⟨L, hL, ?_, hst⟩
  unfold f_X12_lastLevel
  rw [lt_e, next_M h24 ht hn, bd_e]
  have key : ∀ (d f k : Nat), k + d = L → d < f → LX12_lastLevel_14 n τ w (fun w6 => some w6) f (lv c nd mk w x k) (lv c nd mk w x (k + 1)) = some (lv c nd mk w x L) := by
    intro d
    induction d with
    | zero =>
      intro f k hkd hf
      obtain ⟨f, rfl⟩ : ∃ f', f = f' + 1 := ⟨f - 1, by omega⟩
      rw [show k = L by omega, LX12_lastLevel_14, if_pos (hst (L + 1) (by omega))]
    | succ d ih =>
      intro f k hkd hf
      obtain ⟨f, rfl⟩ : ∃ f', f = f' + 1 := ⟨f - 1, by omega⟩
      rw [LX12_lastLevel_14, if_neg (hmin k (by omega)), next_M h24 ht hn, bd_e]
      exact ih f (k + 1) (by omega) (by omega)
  exact key L n 0 (by omega) (by omega)
theorem first_M {τ : SC} {c n : Nat} {nd mk : Nat → Int32} (h24 : c ≤ 24) (ht : TbM c nd mk τ) (hn : 100 < n) (hm : ∀ a, a < c → s30 (mk a)) {x : Int32} (hx : s30 x) (g : Int32) : ∃ r, f_X12_firstWith n τ x g = some r ∧ FW (lv c nd mk 0 x) g r := by
  obtain ⟨L, hL, hmin, hst⟩ := lv_stab (nd := nd) hm (w := 0) hx
  have key : ∀ (d f k : Nat), k + d = 31 → d < f → (∀ j, j < k → ¬ sub g (lv c nd mk 0 x j)) → ∃ r, LX12_firstWith_5 n τ g (fun _ => some (-1)) f (lv c nd mk 0 x k) (nI k) = some r ∧ FW (lv c nd mk 0 x) g r := by
    intro d
    induction d with
    | zero =>
      intro f k hkd hf hno
      obtain ⟨f, rfl⟩ : ∃ f', f = f' + 1 := ⟨f - 1, by omega⟩
      refine ⟨-1, ?_, Or.inr ⟨rfl, fun j => ?_⟩⟩
      · rw [LX12_firstWith_5, if_pos (show (30 : Int32) < nI k from nI_lt (a := 30) (by omega) (by omega))]
      · rcases Nat.lt_or_ge j k with q | q
        · exact hno j q
        · rw [hst j (by omega)]; exact hno L (by omega)
    | succ d ih =>
      intro f k hkd hf hno
      obtain ⟨f, rfl⟩ : ∃ f', f = f' + 1 := ⟨f - 1, by omega⟩
      rw [LX12_firstWith_5, if_neg (show ¬ (30 : Int32) < nI k from nI_nlt (a := 30) (by omega) (by omega)), next_M h24 ht hn, bd_e, lt_e, nI_p1]
      unfold f_X12_has
      by_cases q : sub g (lv c nd mk 0 x k)
      · rw [if_pos q, if_neg one_ne]; exact ⟨nI k, rfl, Or.inl ⟨k, by omega, rfl, q, hno⟩⟩
      · rw [if_neg q, if_pos rfl]
        refine ih f (k + 1) (by omega) (by omega) (fun j hj => ?_)
        by_cases e : j = k
        · rw [e]; exact q
        · exact hno j (by omega)
  have h0 : lv c nd mk 0 x 0 = x := by
    show x &&& (0 ^^^ (-1)) = x
    refine b_ext fun i hi => ?_
    rw [b_and, b_xor, b_0, b_m1 i hi]; simp
  have := key 31 n 0 (by omega) (by omega) (fun j hj => by omega)
  rw [h0] at this
  exact this
theorem TbM.of {c : Nat} {σ τ : SC} (h : RelC c σ τ) : TbM c (ga σ 0) (ga σ 1) τ := ⟨h.1.2.2.1, fun a ha => ⟨(h.2.1 a ha).1, (h.2.1 a ha).2.1⟩⟩
theorem RelC.mk30 {c : Nat} {σ τ : SC} (h : RelC c σ τ) : ∀ a, a < c → s30 (ga σ 1 a) := fun a ha => (h.2.2.1 a ha).2.1
theorem nw_0 (x : Int32) : x &&& (0 ^^^ (-1)) = x := by
  refine b_ext fun i hi => ?_
  rw [b_and, b_xor, b_0, b_m1 i hi]; simp
theorem at_C {s : SC} {L : Nat} {l : Nat → Int32} (hL : L ≤ 30) (h7 : gi s 7 = nI L) (hv : ∀ k, k ≤ L → ga s 8 k = l k) (hst : ∀ k, L ≤ k → l k = l L) {a : Nat} (ha : a < 2 ^ 31) : f_X3_factsAt s (nI a) = some (l a) := by
  unfold f_X3_factsAt
  rw [h7]
  have e : (if nI L < nI a then nI L else nI a) = nI (if L < a then L else a) := by
    by_cases q : L < a
    · rw [if_pos (nI_lt q ha), if_pos q]
    · rw [if_neg (nI_nlt (by omega) (by omega)), if_neg q]
  rw [e]
  have hb : (if L < a then L else a) ≤ L := by split <;> omega
  have hl : l (if L < a then L else a) = l a := by
    by_cases q : L < a
    · rw [if_pos q, hst a (by omega)]
    · rw [if_neg q]
  generalize (if L < a then L else a) = m at hb hl
  have e2 : (if 0 < nI m then nI m else 0) = nI m := by
    rcases m with _ | m
    · rfl
    · rw [if_pos (show (0 : Int32) < nI (m + 1) from nI_lt (a := 0) (by omega) (by omega))]
  rw [e2, ld_n m rfl (by omega) (by omega), hv m hb, hl]
theorem ag_level_ok {n : Nat} (hn : 1000000 ≤ n) : ag_level n Rel := by
  rintro σ τ a1 a2 ⟨c, h⟩
  unfold f_X11_level f_X12_level
  rcases set_c a1 with ⟨s1, e1, e2⟩ | ⟨e1, e2⟩
  rotate_left
  · rw [e1, e2, if_pos rfl, if_pos rfl, RC5, RM5]; exact ⟨_, _, _, rfl, rfl, c, h.ref 5⟩
  rw [e1, e2, if_neg one_ne, if_neg one_ne]
  rcases rng (x := a2) (m := 30) 30 rfl (by decide) with ⟨k, hk, rfl, p1, p2, p3⟩ | ⟨p3, p⟩
  rotate_left
  · rw [p3, if_pos rfl, RM5]
    rcases p with p | ⟨p, p'⟩
    · rw [if_pos p, RC5]; exact ⟨_, _, _, rfl, rfl, c, h.ref 5⟩
    · rw [if_neg p, if_neg p', RC5]; exact ⟨_, _, _, rfl, rfl, c, h.ref 5⟩
  rw [p3, if_neg p1, if_pos p2, if_neg one_ne]
  obtain ⟨s, L, g1, g2, g3, g4, g5, g6⟩ := spread_C h.1.1 h.1.2.1 (show 100 < n by omega) h.mk30 0 s1
  rw [g1, bd_e, at_C g4 g3 g5 g6 (by omega), bd_e]
  refine ⟨_, s, τ, rfl, ?_, c, h.sameC g2.same⟩
  have key : ∀ (d f i : Nat), i + d = k → d < f → LX12_level_29 n τ (nI k) (fun w7 => some (w7, τ)) f (lv c (ga σ 0) (ga σ 1) 0 a1 i) (nI i) = some (lv c (ga σ 0) (ga σ 1) 0 a1 k, τ) := by
    intro d
    induction d with
    | zero =>
      intro f i hkd hf
      obtain ⟨f, rfl⟩ : ∃ f', f = f' + 1 := ⟨f - 1, by omega⟩
      rw [show i = k by omega, LX12_level_29, if_pos (nI_le (Nat.le_refl k) (by omega))]
    | succ d ih =>
      intro f i hkd hf
      obtain ⟨f, rfl⟩ : ∃ f', f = f' + 1 := ⟨f - 1, by omega⟩
      rw [LX12_level_29, if_neg (nI_ge (by omega) (by omega)), next_M h.1.1 (TbM.of h) (by omega), bd_e, lt_e, nI_p1]
      exact ih f (i + 1) (by omega) (by omega)
  have := key k n 0 (by omega) (by omega)
  rw [show lv c (ga σ 0) (ga σ 1) 0 a1 0 = a1 from nw_0 a1] at this
  exact this
theorem ag_first_ok {n : Nat} (hn : 1000000 ≤ n) : ag_first n Rel := by
  rintro σ τ a1 a2 ⟨c, h⟩
  unfold f_X11_first f_X12_first
  rcases fact_c a2 with ⟨j, hj, rfl, e1, e2⟩ | ⟨e1, e2⟩
  rotate_left
  · rw [e1, e2, if_pos rfl, if_pos rfl, RS0, RB0]; exact ⟨_, _, _, rfl, rfl, c, h.ref 0⟩
  rw [e1, e2, if_neg one_ne, if_neg one_ne]
  rcases set_c a1 with ⟨s1, e1, e2⟩ | ⟨e1, e2⟩
  rotate_left
  · rw [e1, e2, if_pos rfl, if_pos rfl, RS5, RB5]; exact ⟨_, _, _, rfl, rfl, c, h.ref 5⟩
  rw [e1, e2, if_neg one_ne, if_neg one_ne]
  obtain ⟨s, L, g1, g2, g3, g4, g5, g6⟩ := spread_C h.1.1 h.1.2.1 (show 100 < n by omega) h.mk30 0 s1
  rw [g1, bd_e]
  obtain ⟨r, r1, r2⟩ := first_C (n := n) (by omega) g4 g3 g5 g6 (1 <<< (nI j &&& 31))
  obtain ⟨r', r1', r2'⟩ := first_M h.1.1 (TbM.of h) (show 100 < n by omega) h.mk30 s1 (1 <<< (nI j &&& 31))
  rw [r1, r1', r2.uniq r2']
  exact ⟨_, _, _, rfl, rfl, c, h.sameC g2.same⟩
theorem ag_firstOf_ok {n : Nat} (hn : 1000000 ≤ n) : ag_firstOf n Rel := by
  rintro σ τ a1 a2 ⟨c, h⟩
  have h24 := h.1.1
  unfold f_X11_firstOf f_X12_firstOf
  rcases Classical.em (inR a2 c) with ha | ha
  rotate_left
  · rw [has_0 h.1.2.1 h24 ha, isAct_0 h.1.2.2.1 h24 ha, if_pos rfl, bd_e, if_pos rfl, RS0, RB0]; exact ⟨_, _, _, rfl, rfl, c, h.ref 0⟩
  rw [has_1 h.1.2.1 h24 ha, isAct_1 h.1.2.2.1 h24 ha, if_neg one_ne, bd_e, if_neg one_ne]
  obtain ⟨a, hac, rfl⟩ := ha
  rcases set_c a1 with ⟨s1, e1, e2⟩ | ⟨e1, e2⟩
  rotate_left
  · rw [e1, e2, if_pos rfl, if_pos rfl, RS5, RB5]; exact ⟨_, _, _, rfl, rfl, c, h.ref 5⟩
  rw [e1, e2, if_neg one_ne, if_neg one_ne]
  obtain ⟨s, L, g1, g2, g3, g4, g5, g6⟩ := spread_C h.1.1 h.1.2.1 (show 100 < n by omega) h.mk30 0 s1
  rw [g1, bd_e, ldA (by omega), ld00 (by omega), (h.2.1 a hac).1, g2.2.1 0 (by decide)]
  obtain ⟨r, r1, r2⟩ := first_C (n := n) (by omega) g4 g3 g5 g6 (ga σ 0 a)
  obtain ⟨r', r1', r2'⟩ := first_M h.1.1 (TbM.of h) (show 100 < n by omega) h.mk30 s1 (ga σ 0 a)
  rw [r1, r1', r2.uniq r2']
  exact ⟨_, _, _, rfl, rfl, c, h.sameC g2.same⟩
/-- a first level there is, just if the last level has g -/
theorem FW.last {l : Nat → Int32} {g r : Int32} {L : Nat} (h : FW l g r) (hst : ∀ k, L ≤ k → l k = l L) (hup : ∀ k, sub g (l k) → sub g (l (k + 1))) : (r = -1 ∧ ¬ sub g (l L)) ∨ (¬ r = -1 ∧ sub g (l L)) := by
  rcases h with ⟨k, h1, h2, h3, h4⟩ | ⟨h1, h2⟩
  · refine Or.inr ⟨by rw [h2]; exact nI_nm1 (by omega), ?_⟩
    have up : ∀ d, sub g (l (k + d)) := by
      intro d
      induction d with
      | zero => exact h3
      | succ d ih => exact hup _ ih
    have := up L
    rw [hst (k + L) (by omega)] at this
    exact this
  · exact Or.inl ⟨h1, h2 L⟩
theorem lv_subs {c : Nat} {nd mk : Nat → Int32} {w x g : Int32} (k : Nat) (h : sub g (lv c nd mk w x k)) : sub g (lv c nd mk w x (k + 1)) := by
  rw [sub_iff] at h ⊢
  exact fun i hi hg => nx_up (h i hi hg)
/-- what the class and the reference find of w and g, started at x -/
theorem reach_ok {c n : Nat} {σ τ : SC} (hn : 1000000 ≤ n) (h : RelC c σ τ) (w g : Int32) {x : Int32} (hx : s30 x) : ∃ s r e, f_X3_spread n σ x w = some s ∧ SprS σ s ∧ f_X3_firstWith n s g = some r ∧ f_X12_lastLevel n τ x w = some e ∧ ((r = -1 ∧ f_X12_has e g = 0) ∨ (¬ r = -1 ∧ f_X12_has e g = 1)) := by
  obtain ⟨s, L, g1, g2, g3, g4, g5, g6⟩ := spread_C h.1.1 h.1.2.1 (show 100 < n by omega) h.mk30 w hx
  obtain ⟨r, r1, r2⟩ := first_C (n := n) (by omega) g4 g3 g5 g6 g
  obtain ⟨L', hL', l1, l2⟩ := last_M h.1.1 (TbM.of h) (show 100 < n by omega) h.mk30 w hx
  refine ⟨s, r, _, g1, g2, r1, l1, ?_⟩
  unfold f_X12_has
  rcases r2.last l2 (fun k => lv_subs k) with ⟨q1, q2⟩ | ⟨q1, q2⟩
  · exact Or.inl ⟨q1, if_neg q2⟩
  · exact Or.inr ⟨q1, if_pos q2⟩
theorem ag_isAhead_ok {n : Nat} (hn : 1000000 ≤ n) : ag_isAhead n Rel := by
  rintro σ τ a1 a2 ⟨c, h⟩
  unfold f_X11_isAhead f_X12_isAhead
  rcases fact_c a1 with ⟨i, hi, rfl, e1, e2⟩ | ⟨e1, e2⟩
  rotate_left
  · rw [e1, e2, if_pos rfl, if_pos rfl, RC0, RM0]; exact ⟨_, _, _, rfl, rfl, c, h.ref 0⟩
  rw [e1, e2, if_neg one_ne, if_neg one_ne]
  rcases fact_c a2 with ⟨j, hj, rfl, e1, e2⟩ | ⟨e1, e2⟩
  rotate_left
  · rw [e1, e2, if_pos rfl, if_pos rfl, RC0, RM0]; exact ⟨_, _, _, rfl, rfl, c, h.ref 0⟩
  rw [e1, e2, if_neg one_ne, if_neg one_ne]
  by_cases q : nI i = nI j
  · rw [if_pos q, if_pos q]; exact ⟨_, _, _, rfl, rfl, c, h⟩
  rw [if_neg q, if_neg q, ld_n (i := 168) 168 rfl (by omega) (by omega), ← h.1.2.2.2.1]
  obtain ⟨s, r, e, g1, g2, g3, g4, g5⟩ := reach_ok hn h (1 <<< (nI i &&& 31)) (1 <<< (nI j &&& 31)) h.1.2.2.2.2.1
  rw [g1, bd_e, g3, bd_e, g4, bd_e]
  rcases g5 with ⟨g5, g6⟩ | ⟨g5, g6⟩
  · rw [if_pos g5, g6, if_pos rfl]; exact ⟨_, _, _, rfl, rfl, c, h.sameC g2.same⟩
  · rw [if_neg g5, g6, if_neg one_ne]; exact ⟨_, _, _, rfl, rfl, c, h.sameC g2.same⟩
theorem ag_landmarks_ok {n : Nat} (hn : 1000000 ≤ n) : ag_landmarks n Rel := by
  rintro σ τ ⟨c, h⟩
  unfold f_X11_landmarks f_X12_landmarks
  obtain ⟨n1, n2, n3, n4, n5, n6, n7, n8, n9, n10⟩ := h.1
  obtain ⟨s, r, e, g1, g2, g3, g4, g5⟩ := reach_ok hn h 0 (gi σ 2) n5
  rw [g1, bd_e, g2.1 2 (by decide), g3, bd_e]
  have come : f_X12_isComeTo n τ (gi σ 1) = some (f_X12_has e (gi σ 2)) := by
    unfold f_X12_isComeTo
    rw [g4, bd_e, ld_n (i := 169) 169 rfl (by omega) (by omega), ← n6]
  rcases g5 with ⟨g5, g6⟩ | ⟨g5, g6⟩
  · rw [if_pos g5]
    refine ⟨0, s, rfl, ?_, c, h.sameC g2.same⟩
    obtain ⟨f, rfl⟩ : ∃ f', n = f' + 1 := ⟨n - 1, by omega⟩
    rw [LX12_landmarks_4, if_neg (by decide), ld_n (i := 168) 168 rfl (by omega) (by omega), ← n4, come, g6, bd_e, if_pos rfl]
  · rw [if_neg g5]
    have key : ∀ (d f f2 i : Nat) (y : Int32) (s : SC), i + d = 30 → d < f → d < f2 → SprS σ s → ∃ r s', LX11_landmarks_33 n (fun σ12 w13 => some (w13, σ12)) f s y (nI i) = some (r, s') ∧ LX12_landmarks_4 n τ (fun w12 => some w12) f2 y (nI i) = some r ∧ SprS σ s' := by
      intro d
      induction d with
      | zero =>
        intro f f2 i y s hid hf hf2 hS
        obtain ⟨f, rfl⟩ : ∃ f', f = f' + 1 := ⟨f - 1, by omega⟩
        obtain ⟨f2, rfl⟩ : ∃ f', f2 = f' + 1 := ⟨f2 - 1, by omega⟩
        have e : (30 : Int32) ≤ nI i := nI_le (a := 30) (by omega) (by omega)
        rw [LX11_landmarks_33, LX12_landmarks_4, if_pos e, if_pos e]
        exact ⟨y, s, rfl, rfl, hS⟩
      | succ d ih =>
        intro f f2 i y s hid hf hf2 hS
        obtain ⟨f, rfl⟩ : ∃ f', f = f' + 1 := ⟨f - 1, by omega⟩
        obtain ⟨f2, rfl⟩ : ∃ f', f2 = f' + 1 := ⟨f2 - 1, by omega⟩
        have e : ¬ (30 : Int32) ≤ nI i := nI_ge (b := 30) (by omega) (by omega)
        have h' := h.sameC hS.same
        obtain ⟨s2, r2, e2, w1, w2, w3, w4, w5⟩ := reach_ok hn h' (1 <<< (nI i &&& 31)) (gi σ 2) (x := gi σ 1) n5
        have hS2 : SprS σ s2 := ⟨fun k hk => (w2.1 k hk).trans (hS.1 k hk), fun a ha => (w2.2.1 a ha).trans (hS.2.1 a ha), fun j => (w2.2.2 j).trans (hS.2.2 j)⟩
        rw [LX11_landmarks_33, LX12_landmarks_4, if_neg e, if_neg e, hS.1 1 (by decide), w1, bd_e, hS2.1 2 (by decide), w3, bd_e, ld_n (i := 168) 168 rfl (by omega) (by omega), ← n4, come, g6, bd_e, if_neg one_ne, ld_n (i := 168) 168 rfl (by omega) (by omega), ← n4, w4, bd_e, ld_n (i := 169) 169 rfl (by omega) (by omega), ← n6, nI_p1]
        rcases w5 with ⟨w5, w6⟩ | ⟨w5, w6⟩
        · rw [if_pos w5, w6, if_pos rfl]
          exact ih f f2 (i + 1) _ s2 (by omega) (by omega) (by omega) hS2
        · rw [if_neg w5, w6, if_neg one_ne, or_0]
          exact ih f f2 (i + 1) _ s2 (by omega) (by omega) (by omega) hS2
    obtain ⟨r', s', k1, k2, k3⟩ := key 30 n n 0 0 s (by omega) (by omega) (by omega) g2
    exact ⟨r', s', k1, k2, c, h.sameC k3.same⟩
