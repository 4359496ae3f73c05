/-! SETTLING: values that only fall, and how soon they rest -/
def FR : Nat := 100000000
def CP : Nat := 1000000
def capN (z : Nat) : Nat := if z < FR then (if z ≤ CP then z else CP) else FR
def vg (sm : Bool) (v : Nat → Nat) (x : Int32) (f y : Nat) : Nat := if bt x f = true then (if v f = FR then FR else if y = FR then FR else if sm = true then capN (y + v f) else (if v f ≤ y then y else v f)) else y
def vS (sm : Bool) (v : Nat → Nat) (x : Int32) : Nat := fo (vg sm v x) 30 0
def vA (sm : Bool) (co : Nat → Nat) (nd : Nat → Int32) (a : Nat) (v : Nat → Nat) : Nat := if vS sm v (nd a) = FR then FR else capN (vS sm v (nd a) + co a)
def Vok (v : Nat → Nat) : Prop := ∀ f, f < 30 → v f ≤ CP ∨ v f = FR
theorem capN_le {z : Nat} (h : z < FR) : capN z ≤ CP ∧ capN z ≤ z ∧ (capN z < CP → capN z = z) := by
  unfold capN
  rw [if_pos h]
  by_cases q : z ≤ CP
  · rw [if_pos q]; omega
  · rw [if_neg q]; omega
theorem capN_mono {y z : Nat} (h : y ≤ z) (hz : z < FR) : capN y ≤ capN z := by
  unfold capN
  rw [if_pos (by omega), if_pos hz]
  by_cases q : y ≤ CP
  · rw [if_pos q]
    by_cases q2 : z ≤ CP
    · rw [if_pos q2]; exact h
    · rw [if_neg q2]; exact q
  · rw [if_neg q, if_neg (by omega)]; omega
theorem capN_ge {y f : Nat} (hz : y < FR) (h1 : f ≤ y) (h2 : f ≤ CP) : f ≤ capN y := by
  unfold capN
  rw [if_pos hz]
  split <;> omega
theorem CPFR : 32 * CP < FR := by decide
theorem vS_c {sm : Bool} {v : Nat → Nat} (hv : Vok v) (x : Int32) : (vS sm v x = FR ∧ ∃ f, f < 30 ∧ bt x f = true ∧ v f = FR) ∨ (vS sm v x ≤ CP ∧ ∀ f, f < 30 → bt x f = true → v f ≤ vS sm v x ∧ v f ≠ FR) := by
  have hc := CPFR
  refine fo_inv (fun k y => (y = FR ∧ ∃ f, f < k ∧ bt x f = true ∧ v f = FR) ∨ (y ≤ CP ∧ ∀ f, f < k → bt x f = true → v f ≤ y ∧ v f ≠ FR)) (Or.inr ⟨Nat.zero_le _, fun f hf => by omega⟩) ?_
  rintro i y hi hy
  unfold vg
  by_cases q : bt x i = true
  · rw [if_pos q]
    by_cases q2 : v i = FR
    · rw [if_pos q2]; exact Or.inl ⟨rfl, i, by omega, q, q2⟩
    · rw [if_neg q2]
      have hvi : v i ≤ CP := by rcases hv i hi with h | h; exact h; exact absurd h q2
      rcases hy with ⟨rfl, f, h1, h2, h3⟩ | ⟨h1, h2⟩
      · rw [if_pos rfl]; exact Or.inl ⟨rfl, f, by omega, h2, h3⟩
      · rw [if_neg (by omega)]
        by_cases q3 : sm = true
        · rw [if_pos q3]
          have hl := capN_le (z := y + v i) (by omega)
          refine Or.inr ⟨hl.1, fun f hf hb => ?_⟩
          by_cases e : f = i
          · subst e; exact ⟨capN_ge (by omega) (by omega) hvi, q2⟩
          · have := h2 f (by omega) hb
            exact ⟨capN_ge (by omega) (by omega) (by omega), this.2⟩
        · rw [if_neg q3]
          by_cases q4 : v i ≤ y
          · rw [if_pos q4]
            refine Or.inr ⟨h1, fun f hf hb => ?_⟩
            by_cases e : f = i
            · subst e; exact ⟨q4, q2⟩
            · exact h2 f (by omega) hb
          · rw [if_neg q4]
            refine Or.inr ⟨hvi, fun f hf hb => ?_⟩
            by_cases e : f = i
            · subst e; exact ⟨Nat.le_refl _, q2⟩
            · have := h2 f (by omega) hb
              exact ⟨by omega, this.2⟩
  · rw [if_neg q]
    rcases hy with ⟨h0, f, h1, h2, h3⟩ | ⟨h1, h2⟩
    · exact Or.inl ⟨h0, f, by omega, h2, h3⟩
    · refine Or.inr ⟨h1, fun f hf hb => ?_⟩
      by_cases e : f = i
      · subst e; exact absurd hb q
      · exact h2 f (by omega) hb
theorem vS_mono {sm : Bool} {v v' : Nat → Nat} (hv : Vok v) (hv' : Vok v') (h : ∀ f, f < 30 → v f ≤ v' f) (x : Int32) : vS sm v' x = FR ∨ (vS sm v x ≤ vS sm v' x ∧ vS sm v' x ≤ CP) := by
  have hc := CPFR
  refine fo_rel (fun _ y y' => y' = FR ∨ (y ≤ y' ∧ y' ≤ CP)) (Or.inr ⟨Nat.le_refl 0, Nat.zero_le _⟩) ?_
  rintro i y y' hi hy
  unfold vg
  by_cases q : bt x i = true
  · rw [if_pos q, if_pos q]
    by_cases q2 : v' i = FR
    · rw [if_pos q2]; exact Or.inl rfl
    · have h1 : v' i ≤ CP := by rcases hv' i hi with h | h; exact h; exact absurd h q2
      have h2 := h i hi
      rw [if_neg q2]
      rcases hy with rfl | ⟨h3, h4⟩
      · rw [if_pos rfl]; exact Or.inl rfl
      · rw [if_neg (by omega : ¬ v i = FR), if_neg (by omega : ¬ y = FR), if_neg (by omega : ¬ y' = FR)]
        by_cases q3 : sm = true
        · rw [if_pos q3, if_pos q3]
          exact Or.inr ⟨capN_mono (by omega) (by omega), (capN_le (by omega)).1⟩
        · rw [if_neg q3, if_neg q3]
          refine Or.inr ⟨?_, ?_⟩
          · split <;> split <;> omega
          · split <;> omega
  · rw [if_neg q, if_neg q]; exact hy
theorem vS_cong {sm : Bool} {v v' : Nat → Nat} {x : Int32} (h : ∀ f, f < 30 → bt x f = true → v f = v' f) : vS sm v x = vS sm v' x := by
  refine fo_cong (fun i y hi => ?_) 0
  unfold vg
  by_cases q : bt x i = true
  · rw [if_pos q, if_pos q, h i hi q]
  · rw [if_neg q, if_neg q]
section
variable {sm : Bool} {co : Nat → Nat} {nd mk : Nat → Int32} {c : Nat}
theorem vA_c (hco : ∀ a, a < c → 1 ≤ co a ∧ co a ≤ CP) {v : Nat → Nat} (hv : Vok v) {a : Nat} (ha : a < c) : (vA sm co nd a v = FR ∧ ∃ f, f < 30 ∧ bt (nd a) f = true ∧ v f = FR) ∨ (vA sm co nd a v ≤ CP ∧ (∀ f, f < 30 → bt (nd a) f = true → v f ≠ FR ∧ (vA sm co nd a v < CP → v f < vA sm co nd a v))) := by
  have hc := CPFR
  have h1 := hco a ha
  unfold vA
  rcases vS_c (sm := sm) hv (nd a) with ⟨q1, q2⟩ | ⟨q1, q2⟩
  · rw [if_pos q1]; exact Or.inl ⟨rfl, q2⟩
  · rw [if_neg (by omega)]
    have hl := capN_le (z := vS sm v (nd a) + co a) (by omega)
    refine Or.inr ⟨hl.1, fun f hf hb => ⟨(q2 f hf hb).2, fun hlt => ?_⟩⟩
    have := (q2 f hf hb).1
    have := hl.2.2 hlt
    omega
theorem vA_mono (hco : ∀ a, a < c → 1 ≤ co a ∧ co a ≤ CP) {v v' : Nat → Nat} (hv : Vok v) (hv' : Vok v') (h : ∀ f, f < 30 → v f ≤ v' f) {a : Nat} (ha : a < c) : vA sm co nd a v ≤ vA sm co nd a v' := by
  have hc := CPFR
  have h1 := hco a ha
  have hle : vA sm co nd a v ≤ FR := by
    rcases vA_c (sm := sm) (nd := nd) hco hv ha with ⟨q, _⟩ | ⟨q, _⟩ <;> omega
  rcases vS_mono (sm := sm) hv hv' h (nd a) with q | ⟨q1, q2⟩
  · have : vA sm co nd a v' = FR := by unfold vA; rw [if_pos q]
    omega
  · unfold vA
    rw [if_neg (by omega), if_neg (by omega)]
    exact capN_mono (by omega) (by omega)
/-- lowering -/
def lwF (m : Int32) (w : Nat) (f : Nat) (p : (Nat → Nat) × Bool) : (Nat → Nat) × Bool := if bt m f = true ∧ w < p.1 f then (fun j => if j = f then w else p.1 j, true) else p
def lw (m : Int32) (w : Nat) (p : (Nat → Nat) × Bool) : (Nat → Nat) × Bool := fo (lwF m w) 30 p
def lwV (m : Int32) (w : Nat) (v : Nat → Nat) : Nat → Nat := fun j => if j < 30 ∧ bt m j = true ∧ w < v j then w else v j
theorem lw_v (m : Int32) (w : Nat) (v : Nat → Nat) (b : Bool) : (lw m w (v, b)).1 = lwV m w v := by
  have h := fo_inv (g := lwF m w) (fun k (p : (Nat → Nat) × Bool) => p.1 = fun j => if j < k ∧ bt m j = true ∧ w < v j then w else v j) (x := (v, b)) (by funext j; rw [if_neg (by omega)]) (c := 30) (by
    rintro i ⟨p, b'⟩ hi h
    have h : p = fun j => if j < i ∧ bt m j = true ∧ w < v j then w else v j := h
    have h' : ∀ j, p j = if j < i ∧ bt m j = true ∧ w < v j then w else v j := fun j => congrFun h j
    have hp : p i = v i := by rw [h']; exact if_neg (by omega)
    unfold lwF
    dsimp only
    by_cases q : bt m i = true ∧ w < p i
    · rw [if_pos q]
      rw [hp] at q
      funext j
      show (if j = i then w else p j) = _
      by_cases e : j = i
      · subst e; rw [if_pos rfl, if_pos ⟨by omega, q⟩]
      · rw [if_neg e, h']
        by_cases q2 : j < i ∧ bt m j = true ∧ w < v j
        · rw [if_pos q2, if_pos ⟨by omega, q2.2⟩]
        · rw [if_neg q2, if_neg (fun h => q2 ⟨by omega, h.2⟩)]
    · rw [if_neg q]
      rw [hp] at q
      funext j
      show p j = _
      by_cases e : j = i
      · subst e; rw [hp, if_neg (fun h => q h.2)]
      · rw [h']
        by_cases q2 : j < i ∧ bt m j = true ∧ w < v j
        · rw [if_pos q2, if_pos ⟨by omega, q2.2⟩]
        · rw [if_neg q2, if_neg (fun h => q2 ⟨by omega, h.2⟩)])
  exact h
theorem lw_f (m : Int32) (w : Nat) (v : Nat → Nat) (b : Bool) : (lw m w (v, b)).2 = true ↔ b = true ∨ ∃ j, j < 30 ∧ bt m j = true ∧ w < v j := by
  have h := fo_inv (g := lwF m w) (fun k (p : (Nat → Nat) × Bool) => (∀ j, k ≤ j → p.1 j = v j) ∧ (p.2 = true ↔ b = true ∨ ∃ j, j < k ∧ bt m j = true ∧ w < v j)) (x := (v, b)) ⟨fun _ _ => rfl, ⟨fun h => Or.inl h, fun h => by rcases h with h | ⟨j, hj, _⟩; exact h; omega⟩⟩ (c := 30) (by
    rintro i p hi ⟨h1, h2⟩
    unfold lwF
    rw [h1 i (Nat.le_refl i)]
    by_cases q : bt m i = true ∧ w < v i
    · rw [if_pos q]
      refine ⟨fun j hj => ?_, ⟨fun _ => Or.inr ⟨i, by omega, q⟩, fun _ => rfl⟩⟩
      show (if j = i then w else p.1 j) = _
      rw [if_neg (by omega), h1 j (by omega)]
    · rw [if_neg q]
      refine ⟨fun j hj => h1 j (by omega), h2.trans ⟨fun h => ?_, fun h => ?_⟩⟩
      · rcases h with h | ⟨j, hj, hb⟩
        · exact Or.inl h
        · exact Or.inr ⟨j, by omega, hb⟩
      · rcases h with h | ⟨j, hj, hb⟩
        · exact Or.inl h
        · by_cases e : j = i
          · subst e; exact absurd hb q
          · exact Or.inr ⟨j, by omega, hb⟩)
  exact h.2
def stV (sm : Bool) (co : Nat → Nat) (nd mk : Nat → Int32) (a : Nat) (v : Nat → Nat) : Nat → Nat := lwV (mk a) (vA sm co nd a v) v
def RV (sm : Bool) (co : Nat → Nat) (nd mk : Nat → Int32) (c : Nat) (v : Nat → Nat) : Nat → Nat := fo (stV sm co nd mk) c v
theorem lwV_le (m : Int32) (w : Nat) (v : Nat → Nat) (j : Nat) : lwV m w v j ≤ v j := by
  unfold lwV; split <;> omega
theorem stV_ok (hco : ∀ a, a < c → 1 ≤ co a ∧ co a ≤ CP) {v : Nat → Nat} (hv : Vok v) {a : Nat} (ha : a < c) : Vok (stV sm co nd mk a v) := by
  intro f hf
  unfold stV lwV
  split
  · rcases vA_c (sm := sm) (nd := nd) hco hv ha with ⟨q, _⟩ | ⟨q, _⟩
    · exact Or.inr q
    · exact Or.inl q
  · exact hv f hf
theorem RV_part (hco : ∀ a, a < c → 1 ≤ co a ∧ co a ≤ CP) {v : Nat → Nat} (hv : Vok v) : ∀ k, k ≤ c → Vok (fo (stV sm co nd mk) k v) ∧ ∀ j, fo (stV sm co nd mk) k v j ≤ v j
  | 0, _ => ⟨hv, fun _ => Nat.le_refl _⟩
  | k + 1, h => by
    obtain ⟨h1, h2⟩ := RV_part hco hv k (by omega)
    rw [fo_s]
    exact ⟨stV_ok hco h1 (by omega), fun j => Nat.le_trans (lwV_le _ _ _ j) (h2 j)⟩
/-- later parts are lower -/
theorem RV_chain (v : Nat → Nat) (k : Nat) : ∀ d j, fo (stV sm co nd mk) (k + d) v j ≤ fo (stV sm co nd mk) k v j
  | 0, _ => Nat.le_refl _
  | d + 1, j => by
    rw [show k + (d + 1) = (k + d) + 1 by omega, fo_s]
    exact Nat.le_trans (lwV_le _ _ _ j) (RV_chain v k d j)
def VK (sm : Bool) (co : Nat → Nat) (nd mk : Nat → Int32) (c : Nat) (v : Nat → Nat) : Nat → Nat → Nat
  | 0 => v
  | k + 1 => RV sm co nd mk c (VK sm co nd mk c v k)
theorem VK_ok (hco : ∀ a, a < c → 1 ≤ co a ∧ co a ≤ CP) {v : Nat → Nat} (hv : Vok v) : ∀ k, Vok (VK sm co nd mk c v k)
  | 0 => hv
  | k + 1 => (RV_part hco (VK_ok hco hv k) c (Nat.le_refl c)).1
theorem VK_down (v : Nat → Nat) (k j : Nat) : VK sm co nd mk c v (k + 1) j ≤ VK sm co nd mk c v k j := by
  have := RV_chain (sm := sm) (co := co) (nd := nd) (mk := mk) (VK sm co nd mk c v k) 0 c j
  rw [Nat.zero_add] at this
  exact this
theorem VK_down' (v : Nat → Nat) (k : Nat) : ∀ d j, VK sm co nd mk c v (k + d) j ≤ VK sm co nd mk c v k j
  | 0, _ => Nat.le_refl _
  | d + 1, j => Nat.le_trans (VK_down v (k + d) j) (VK_down' v k d j)
theorem VK_fix {v : Nat → Nat} {k : Nat} (h : RV sm co nd mk c (VK sm co nd mk c v k) = VK sm co nd mk c v k) : ∀ d, VK sm co nd mk c v (k + d) = VK sm co nd mk c v k
  | 0 => rfl
  | d + 1 => by
    show RV sm co nd mk c (VK sm co nd mk c v (k + d)) = _
    rw [VK_fix h d, h]
end
def sm30 (v : Nat → Nat) : Nat → Nat
  | 0 => 0
  | n + 1 => sm30 v n + v n
theorem sm30_le {v v' : Nat → Nat} (h : ∀ j, v' j ≤ v j) : ∀ n, sm30 v' n ≤ sm30 v n
  | 0 => Nat.le_refl 0
  | n + 1 => Nat.add_le_add (sm30_le h n) (h n)
theorem sm30_lt {v v' : Nat → Nat} (h : ∀ j, v' j ≤ v j) : ∀ n, (∃ j, j < n ∧ v' j ≠ v j) → sm30 v' n < sm30 v n
  | 0, ⟨j, hj, _⟩ => by omega
  | n + 1, ⟨j, hj, hne⟩ => by
    show sm30 v' n + v' n < sm30 v n + v n
    have h1 := h n
    have h2 := sm30_le h n
    by_cases e : j = n
    · subst e; omega
    · have := sm30_lt h n ⟨j, by omega, hne⟩
      omega
theorem RV_out {sm : Bool} {co : Nat → Nat} {nd mk : Nat → Int32} {c : Nat} (v : Nat → Nat) {j : Nat} (hj : 30 ≤ j) : RV sm co nd mk c v j = v j := by
  refine fo_inv (fun _ (x : Nat → Nat) => x j = v j) rfl ?_
  intro i x hi hx
  unfold stV lwV
  rw [if_neg (by omega)]; exact hx
theorem VK_rest (sm : Bool) (co : Nat → Nat) (nd mk : Nat → Int32) (c : Nat) (v : Nat → Nat) : ∃ K, RV sm co nd mk c (VK sm co nd mk c v K) = VK sm co nd mk c v K := by
  have key : ∀ m k, sm30 (VK sm co nd mk c v k) 30 ≤ m → ∃ K, RV sm co nd mk c (VK sm co nd mk c v K) = VK sm co nd mk c v K := by
    intro m
    induction m with
    | zero =>
      intro k hk
      refine ⟨k, ?_⟩
      refine Classical.byContradiction fun hne => ?_
      have : ∃ j, j < 30 ∧ VK sm co nd mk c v (k + 1) j ≠ VK sm co nd mk c v k j := by
        refine Classical.byContradiction fun hno => hne (funext fun j => ?_)
        rcases Nat.lt_or_ge j 30 with q | q
        · exact Classical.byContradiction fun h => hno ⟨j, q, h⟩
        · exact RV_out _ q
      have := sm30_lt (VK_down (sm := sm) (co := co) (nd := nd) (mk := mk) (c := c) v k) 30 this
      omega
    | succ m ih =>
      intro k hk
      by_cases q : RV sm co nd mk c (VK sm co nd mk c v k) = VK sm co nd mk c v k
      · exact ⟨k, q⟩
      · have : ∃ j, j < 30 ∧ VK sm co nd mk c v (k + 1) j ≠ VK sm co nd mk c v k j := by
          refine Classical.byContradiction fun hno => q (funext fun j => ?_)
          rcases Nat.lt_or_ge j 30 with q | q
          · exact Classical.byContradiction fun h => hno ⟨j, q, h⟩
          · exact RV_out _ q
        have := sm30_lt (VK_down (sm := sm) (co := co) (nd := nd) (mk := mk) (c := c) v k) 30 this
        exact ih (k + 1) (by omega)
  exact key _ 0 (Nat.le_refl _)
/-- counting what holds below n -/
def kb (b : Nat → Bool) : Nat → Nat
  | 0 => 0
  | n + 1 => kb b n + (if b n = true then 1 else 0)
theorem kb_le (b : Nat → Bool) : ∀ n, kb b n ≤ n
  | 0 => Nat.le_refl 0
  | n + 1 => by
    have := kb_le b n
    show kb b n + _ ≤ _
    split <;> omega
theorem kb_all {b : Nat → Bool} : ∀ {n}, n ≤ kb b n → ∀ i, i < n → b i = true
  | n + 1, h, i, hi => by
    have h1 := kb_le b n
    have h2 : n + 1 ≤ kb b n + (if b n = true then 1 else 0) := h
    by_cases q : b n = true
    · rw [if_pos q] at h2
      by_cases e : i = n
      · subst e; exact q
      · exact kb_all (n := n) (by omega) i (by omega)
    · rw [if_neg q] at h2; omega
theorem kb_mono {b b' : Nat → Bool} : ∀ {n}, (∀ i, i < n → b i = true → b' i = true) → kb b n ≤ kb b' n
  | 0, _ => Nat.le_refl 0
  | n + 1, h => by
    have h1 := kb_mono (n := n) (fun i hi => h i (by omega))
    show kb b n + _ ≤ kb b' n + _
    by_cases q : b n = true
    · rw [if_pos q, if_pos (h n (by omega) q)]; omega
    · rw [if_neg q]; omega
theorem kb_lt {b b' : Nat → Bool} : ∀ {n}, (∀ i, i < n → b i = true → b' i = true) → (∃ i, i < n ∧ b' i = true ∧ ¬ b i = true) → kb b n < kb b' n
  | 0, _, ⟨i, hi, _⟩ => by omega
  | n + 1, h, ⟨i, hi, hy, hx⟩ => by
    have hm := kb_mono (n := n) (fun i hi => h i (by omega))
    show kb b n + _ < kb b' n + _
    by_cases e : i = n
    · subst e
      rw [if_neg hx, if_pos hy]; omega
    · have h1 := kb_lt (n := n) (fun i hi => h i (by omega)) ⟨i, by omega, hy, hx⟩
      by_cases q : b n = true
      · rw [if_pos q, if_pos (h n (by omega) q)]; omega
      · rw [if_neg q]; omega
section
variable {sm : Bool} {co : Nat → Nat} {nd mk : Nat → Int32} {c : Nat}
theorem VK_settle (hco : ∀ a, a < c → 1 ≤ co a ∧ co a ≤ CP) {v : Nat → Nat} (hv : ∀ f, f < 30 → v f = 0 ∨ v f = FR) : RV sm co nd mk c (VK sm co nd mk c v 30) = VK sm co nd mk c v 30 := by
  have hcf := CPFR
  have hok : Vok v := fun f hf => by
    rcases hv f hf with h | h
    · exact Or.inl (by omega)
    · exact Or.inr h
  obtain ⟨K, hK⟩ := VK_rest sm co nd mk c v
  generalize hW : VK sm co nd mk c v K = W at hK
  have hWok : Vok W := hW ▸ VK_ok hco hok K
  have low : ∀ k j, W j ≤ VK sm co nd mk c v k j := by
    intro k j
    rcases Nat.lt_or_ge k K with q | q
    · obtain ⟨d, rfl⟩ : ∃ d, K = k + d := ⟨K - k, by omega⟩
      rw [← hW]; exact VK_down' v k d j
    · obtain ⟨d, rfl⟩ : ∃ d, k = K + d := ⟨k - K, by omega⟩
      rw [VK_fix (by rw [hW]; exact hK) d, hW]
      exact Nat.le_refl _
  -- W is left alone by every action
  have fixa : ∀ a, a < c → stV sm co nd mk a W = W := by
    have part : ∀ k, k ≤ c → fo (stV sm co nd mk) k W = W := by
      intro k hk
      funext j
      have h1 := (RV_part (nd := nd) (mk := mk) (sm := sm) hco hWok k hk).2 j
      have h2 := RV_chain (sm := sm) (co := co) (nd := nd) (mk := mk) W k (c - k) j
      rw [show k + (c - k) = c by omega] at h2
      have h3 : fo (stV sm co nd mk) c W j = W j := congrFun hK j
      omega
    intro a ha
    have h1 := part (a + 1) (by omega)
    rw [fo_s, part a (by omega)] at h1
    exact h1
  -- whence a value comes
  have prov : ∀ k, ∀ f, f < 30 → VK sm co nd mk c v k f < FR → v f = 0 ∨ ∃ a, a < c ∧ bt (mk a) f = true ∧ vA sm co nd a (VK sm co nd mk c v k) ≤ VK sm co nd mk c v k f := by
    intro k
    induction k with
    | zero =>
      intro f hf h
      rcases hv f hf with q | q
      · exact Or.inl q
      · have : v f < FR := h
        omega
    | succ k ih =>
      have hk := VK_ok (nd := nd) (mk := mk) (sm := sm) hco hok k
      have := fo_inv (g := stV sm co nd mk) (c := c) (x := VK sm co nd mk c v k) (fun i (x : Nat → Nat) => Vok x ∧ ∀ f, f < 30 → x f < FR → v f = 0 ∨ ∃ a, a < c ∧ bt (mk a) f = true ∧ vA sm co nd a x ≤ x f) ⟨hk, ih⟩ (by
        rintro i x hi ⟨hx, hp⟩
        have hx' := stV_ok (sm := sm) (nd := nd) (mk := mk) hco hx hi
        have dn : ∀ j, stV sm co nd mk i x j ≤ x j := fun j => lwV_le _ _ _ j
        refine ⟨hx', fun f hf hlt => ?_⟩
        by_cases q : bt (mk i) f = true ∧ vA sm co nd i x < x f
        · refine Or.inr ⟨i, hi, q.1, ?_⟩
          have e : stV sm co nd mk i x f = vA sm co nd i x := if_pos ⟨hf, q⟩
          rw [e]
          exact vA_mono hco hx' hx (fun j _ => dn j) hi
        · have e : stV sm co nd mk i x f = x f := if_neg (fun h => q h.2)
          rw [e] at hlt ⊢
          rcases hp f hf hlt with h | ⟨a, ha, hb, hle⟩
          · exact Or.inl h
          · exact Or.inr ⟨a, ha, hb, Nat.le_trans (vA_mono hco hx' hx (fun j _ => dn j) ha) hle⟩)
      exact this.2
  -- one more rests after each round
  have more : ∀ k, (∃ f, f < 30 ∧ VK sm co nd mk c v k f ≠ W f) → ∃ f, f < 30 ∧ VK sm co nd mk c v k f ≠ W f ∧ VK sm co nd mk c v (k + 1) f = W f := by
    rintro k ⟨f0, hf0, hne0⟩
    have hkok := VK_ok (nd := nd) (mk := mk) (sm := sm) hco hok k
    by_cases hA : ∃ f, f < 30 ∧ VK sm co nd mk c v k f ≠ W f ∧ W f < CP
    · obtain ⟨x, ⟨f, hf, hne, hx, hlt⟩, hmin⟩ := pk_least (fun x => ∃ f, f < 30 ∧ VK sm co nd mk c v k f ≠ W f ∧ W f = x ∧ W f < CP) (by obtain ⟨f, h1, h2, h3⟩ := hA; exact ⟨W f, f, h1, h2, rfl, h3⟩)
      refine ⟨f, hf, hne, ?_⟩
      have pW := prov K f hf (by rw [hW]; omega)
      rw [hW] at pW
      rcases pW with h0 | ⟨a, ha, hb, hle⟩
      · exfalso
        apply hne
        have h1 := VK_down' (sm := sm) (co := co) (nd := nd) (mk := mk) (c := c) v 0 k f
        rw [Nat.zero_add] at h1
        have h2 : VK sm co nd mk c v 0 f = 0 := h0
        have := low k f
        omega
      · have hal := vA_c (sm := sm) (nd := nd) hco hWok ha
        rcases hal with ⟨q, _⟩ | ⟨_, hneed⟩
        · omega
        · -- the state when a's turn comes
          have xa1 := RV_part (nd := nd) (mk := mk) (sm := sm) hco hkok a (by omega)
          have xlow : ∀ j, W j ≤ fo (stV sm co nd mk) a (VK sm co nd mk c v k) j := by
            intro j
            have h2 := RV_chain (sm := sm) (co := co) (nd := nd) (mk := mk) (VK sm co nd mk c v k) a (c - a) j
            rw [show a + (c - a) = c by omega] at h2
            exact Nat.le_trans (low (k + 1) j) h2
          have same : ∀ g, g < 30 → bt (nd a) g = true → fo (stV sm co nd mk) a (VK sm co nd mk c v k) g = W g := by
            intro g hg hbg
            have h1 := (hneed g hg hbg).2 (by omega)
            have h2 : VK sm co nd mk c v k g = W g := by
              refine Classical.byContradiction fun hg2 => hmin (W g) (by omega) ⟨g, hg, hg2, rfl, by omega⟩
            have h3 := xa1.2 g
            have h4 := xlow g
            omega
          have eA : vA sm co nd a (fo (stV sm co nd mk) a (VK sm co nd mk c v k)) = vA sm co nd a W := by
            unfold vA
            rw [vS_cong same]
          have h5 : fo (stV sm co nd mk) (a + 1) (VK sm co nd mk c v k) f ≤ W f := by
            rw [fo_s]
            show lwV _ _ _ f ≤ _
            unfold lwV
            rw [eA]
            split
            · exact hle
            · next q =>
              rcases Nat.lt_or_ge (vA sm co nd a W) (fo (stV sm co nd mk) a (VK sm co nd mk c v k) f) with q2 | q2
              · exact absurd ⟨hf, hb, q2⟩ q
              · omega
          have h6 := RV_chain (sm := sm) (co := co) (nd := nd) (mk := mk) (VK sm co nd mk c v k) (a + 1) (c - (a + 1)) f
          rw [show a + 1 + (c - (a + 1)) = c by omega] at h6
          have h7 : VK sm co nd mk c v (k + 1) f ≤ W f := Nat.le_trans h6 h5
          have := low (k + 1) f
          omega
    · have hB : ∀ f, f < 30 → VK sm co nd mk c v k f ≠ W f → W f = CP ∧ VK sm co nd mk c v k f = FR := by
        intro f hf hne
        have h1 : ¬ W f < CP := fun h => hA ⟨f, hf, hne, h⟩
        have h2 := low k f
        rcases hWok f hf with q | q
        · rcases hkok f hf with q2 | q2
          · omega
          · exact ⟨by omega, q2⟩
        · rcases hkok f hf with q2 | q2
          · omega
          · omega
      refine Classical.byContradiction fun hno => ?_
      have stay : ∀ f, f < 30 → VK sm co nd mk c v (k + 1) f = VK sm co nd mk c v k f := by
        intro f hf
        have h1 := VK_down (sm := sm) (co := co) (nd := nd) (mk := mk) (c := c) v k f
        have h2 := low (k + 1) f
        by_cases q : VK sm co nd mk c v k f = W f
        · omega
        · obtain ⟨b1, b2⟩ := hB f hf q
          rcases VK_ok (nd := nd) (mk := mk) (sm := sm) hco hok (k + 1) f hf with q2 | q2
          · exact absurd ⟨f, hf, q, by omega⟩ hno
          · omega
      have fixk : RV sm co nd mk c (VK sm co nd mk c v k) = VK sm co nd mk c v k := by
        funext j
        rcases Nat.lt_or_ge j 30 with q | q
        · exact stay j q
        · exact RV_out _ q
      apply hne0
      rw [← hW]
      rcases Nat.lt_or_ge k K with q | q
      · obtain ⟨d, rfl⟩ : ∃ d, K = k + d := ⟨K - k, by omega⟩
        rw [VK_fix fixk d]
      · obtain ⟨d, rfl⟩ : ∃ d, k = K + d := ⟨k - K, by omega⟩
        rw [VK_fix (by rw [hW]; exact hK) d]
  have grow : ∀ k, (∀ f, f < 30 → VK sm co nd mk c v k f = W f) ∨ k ≤ kb (fun f => decide (VK sm co nd mk c v k f = W f)) 30 := by
    intro k
    induction k with
    | zero => exact Or.inr (Nat.zero_le _)
    | succ k ih =>
      have keep : ∀ f, VK sm co nd mk c v k f = W f → VK sm co nd mk c v (k + 1) f = W f := by
        intro f hf
        have h1 := VK_down (sm := sm) (co := co) (nd := nd) (mk := mk) (c := c) v k f
        have h2 := low (k + 1) f
        omega
      rcases ih with ih | ih
      · exact Or.inl fun f hf => keep f (ih f hf)
      · by_cases q : ∃ f, f < 30 ∧ VK sm co nd mk c v k f ≠ W f
        · obtain ⟨f, h1, h2, h3⟩ := more k q
          have := kb_lt (n := 30) (b := fun f => decide (VK sm co nd mk c v k f = W f)) (b' := fun f => decide (VK sm co nd mk c v (k + 1) f = W f)) (fun i _ hi => decide_eq_true (keep i (of_decide_eq_true hi))) ⟨f, h1, decide_eq_true h3, fun h => h2 (of_decide_eq_true h)⟩
          exact Or.inr (by omega)
        · exact Or.inl fun f hf => keep f (Classical.byContradiction fun h => q ⟨f, hf, h⟩)
  have all : ∀ f, f < 30 → VK sm co nd mk c v 30 f = W f := by
    rcases grow 30 with h | h
    · exact h
    · exact fun f hf => of_decide_eq_true (kb_all h f hf)
  funext j
  rcases Nat.lt_or_ge j 30 with q | q
  · have h1 := VK_down (sm := sm) (co := co) (nd := nd) (mk := mk) (c := c) v 30 j
    have h2 := low (30 + 1) j
    have h3 := all j q
    show VK sm co nd mk c v (30 + 1) j = _
    omega
  · exact RV_out _ q
/-- the round after which all rests -/
theorem VK_stop (hco : ∀ a, a < c → 1 ≤ co a ∧ co a ≤ CP) {v : Nat → Nat} (hv : ∀ f, f < 30 → v f = 0 ∨ v f = FR) : ∃ T, T ≤ 30 ∧ RV sm co nd mk c (VK sm co nd mk c v T) = VK sm co nd mk c v T ∧ ∀ k, k < T → RV sm co nd mk c (VK sm co nd mk c v k) ≠ VK sm co nd mk c v k := by
  obtain ⟨T, h1, h2⟩ := pk_least (fun k => RV sm co nd mk c (VK sm co nd mk c v k) = VK sm co nd mk c v k) ⟨30, VK_settle hco hv⟩
  refine ⟨T, ?_, h1, h2⟩
  rcases Nat.lt_or_ge 30 T with q | q
  · exact absurd (VK_settle hco hv) (h2 30 q)
  · exact q
end
