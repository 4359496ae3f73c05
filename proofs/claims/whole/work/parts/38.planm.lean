/-! the reference's relaxed plan -/
def FI (p : Nat → Bool) : Nat → Int32
  | 0 => -1
  | k + 1 => if FI p k = -1 then (if p k = true then nI k else -1) else FI p k
theorem FI_p (p : Nat → Bool) : ∀ k, k < 2 ^ 31 → (FI p k = -1 ∧ ∀ i, i < k → p i = false) ∨ ∃ j, j < k ∧ FI p k = nI j ∧ p j = true ∧ ∀ i, i < j → p i = false
  | 0, _ => Or.inl ⟨rfl, fun i h => by omega⟩
  | k + 1, hk => by
    rcases FI_p p k (by omega) with ⟨h1, h2⟩ | ⟨j, h1, h2, h3, h4⟩
    · show ((if FI p k = -1 then _ else _) = (-1 : Int32) ∧ _) ∨ ∃ j, _ ∧ (if FI p k = -1 then _ else _) = nI j ∧ _
      rw [if_pos h1]
      cases hp : p k with
      | true =>
        rw [if_pos rfl]
        exact Or.inr ⟨k, by omega, rfl, hp, h2⟩
      | false =>
        rw [if_neg (by decide)]
        refine Or.inl ⟨rfl, fun i hi => ?_⟩
        by_cases e : i = k
        · rw [e]; exact hp
        · exact h2 i (by omega)
    · right
      show ∃ j, _ ∧ (if FI p k = -1 then _ else _) = nI j ∧ _
      rw [h2, if_neg (nI_nm1 (by omega))]
      exact ⟨j, by omega, rfl, h3, h4⟩
def LevS (τ t : SC) : Prop := (∀ k, gi t k = gi τ k) ∧ (∀ a, a ≠ 6 → a ≠ 7 → ga t a = ga τ a) ∧ ∀ j, gl t j = gl τ j
def lF (nd mk : Nat → Int32) (c : Nat) (x : Int32) (f j : Nat) : Bool := bt (lv c nd mk 0 x j) f
def lA (nd mk : Nat → Int32) (c : Nat) (x : Int32) (a j : Nat) : Bool := decide (sub (nd a) (lv c nd mk 0 x j))
theorem levels_M {τ : SC} {n c : Nat} {nd mk : Nat → Int32} (hn : 100 < n) (h24 : c ≤ 24) (ht : TbM c nd mk τ) (x : Int32) :
    ∃ t, f_X12_levels n τ x = some t ∧ LevS τ t ∧ (∀ f, f < 30 → ga t 6 f = FI (lF nd mk c x f) 31) ∧ ∀ a, a < c → ga t 7 a = FI (lA nd mk c x a) 31 := by
  unfold f_X12_levels
  have st1 := loop_rel (L := fun f i y => LX12_levels_2 (fun σ3 => LX12_levels_23 (fun σ6 => LX12_levels_46 n (fun σ29 => some σ29) n σ6 x 0) n σ3 0) f y (nI i)) (K := fun σ3 => LX12_levels_23 (fun σ6 => LX12_levels_46 n (fun σ29 => some σ29) n σ6 x 0) n σ3 0) (g := fun _ (z : Unit) => z) (c := 30) (n := n) (x := τ) (y := ()) (fun k y _ => LevS τ y ∧ ∀ f, f < k → ga y 6 f = -1) (by omega) ⟨⟨fun _ => rfl, fun _ _ _ => rfl, fun _ => rfl⟩, fun f hf => by omega⟩ (fun f y z _ => if_pos (nI_le (Nat.le_refl 30) (by omega))) (by
    rintro f i s z hi ⟨i1, i2⟩
    right
    show ∃ x', (if (30 : Int32) ≤ nI i then _ else _) = _ ∧ _
    rw [if_neg (show ¬ (30 : Int32) ≤ nI i from nI_ge (b := 30) hi (by omega)), ck_n i rfl hi (by omega), nI_clamp (by omega), lt_e, lt_e, nI_p1]
    refine ⟨_, rfl, ⟨i1.1, fun a h6 h7 => by rw [ga_sa, if_neg h6, i1.2.1 a h6 h7], i1.2.2⟩, fun f hf => ?_⟩
    rw [ga_sa, if_pos rfl, ud_s]
    by_cases e : f = i
    · rw [if_pos e]
    · rw [if_neg e, i2 f (by omega)])
  obtain ⟨t1, e1, s1, f1⟩ := st1
  rw [show LX12_levels_2 (fun σ3 => LX12_levels_23 (fun σ6 => LX12_levels_46 n (fun σ29 => some σ29) n σ6 x 0) n σ3 0) n τ 0 = _ from e1]
  have st2 := loop_rel (L := fun f i y => LX12_levels_23 (fun σ6 => LX12_levels_46 n (fun σ29 => some σ29) n σ6 x 0) f y (nI i)) (K := fun σ6 => LX12_levels_46 n (fun σ29 => some σ29) n σ6 x 0) (g := fun _ (z : Unit) => z) (c := 24) (n := n) (x := t1) (y := ()) (fun k y _ => LevS τ y ∧ (∀ f, f < 30 → ga y 6 f = -1) ∧ ∀ f, f < k → ga y 7 f = -1) (by omega) ⟨s1, f1, fun f hf => by omega⟩ (fun f y z _ => if_pos (nI_le (Nat.le_refl 24) (by omega))) (by
    rintro f i s z hi ⟨i1, i2, i3⟩
    right
    show ∃ x', (if (24 : Int32) ≤ nI i then _ else _) = _ ∧ _
    rw [if_neg (show ¬ (24 : Int32) ≤ nI i from nI_ge (b := 24) hi (by omega)), ck_n i rfl hi (by omega), nI_clamp (by omega), lt_e, lt_e, nI_p1]
    refine ⟨_, rfl, ⟨i1.1, fun a h6 h7 => by rw [ga_sa, if_neg h7, i1.2.1 a h6 h7], i1.2.2⟩, i2, fun f hf => ?_⟩
    rw [ga_sa, if_pos rfl, ud_s]
    by_cases e : f = i
    · rw [if_pos e]
    · rw [if_neg e, i3 f (by omega)])
  obtain ⟨t2, e2, s2, f2, g2⟩ := st2
  rw [show LX12_levels_23 (fun σ6 => LX12_levels_46 n (fun σ29 => some σ29) n σ6 x 0) n t1 0 = _ from e2]
  have key : ∀ (d f k : Nat) (s : SC), k + d = 31 → d < f → LevS τ s → (∀ f, f < 30 → ga s 6 f = FI (lF nd mk c x f) k) → (∀ a, a < c → ga s 7 a = FI (lA nd mk c x a) k) → ∃ t, LX12_levels_46 n (fun σ29 => some σ29) f s (lv c nd mk 0 x k) (nI k) = some t ∧ LevS τ t ∧ (∀ f, f < 30 → ga t 6 f = FI (lF nd mk c x f) 31) ∧ ∀ a, a < c → ga t 7 a = FI (lA nd mk c x a) 31 := by
    intro d
    induction d with
    | zero =>
      intro f k s hk hf hS h6 h7
      obtain ⟨f, rfl⟩ : ∃ f', f = f' + 1 := ⟨f - 1, by omega⟩
      have e : k = 31 := by omega
      subst e
      exact ⟨s, if_pos (show (30 : Int32) < nI 31 by decide), hS, h6, h7⟩
    | succ d ih =>
      intro f k s hk hf hS h6 h7
      obtain ⟨f, rfl⟩ : ∃ f', f = f' + 1 := ⟨f - 1, by omega⟩
      rw [LX12_levels_46, if_neg (show ¬ (30 : Int32) < nI k from nI_nlt (a := 30) (by omega) (by omega))]
      generalize hK2 : (fun σ25 => bd (f_X12_nextLevel n σ25 (lv c nd mk 0 x k) 0) (fun v27 => lt (nI k + 1) (fun v28 => LX12_levels_46 n (fun σ29 => some σ29) f σ25 v27 v28))) = K2
      have st3 := loop_rel (L := fun f i y => LX12_levels_55 (lv c nd mk 0 x k) (nI k) (fun σ14 => LX12_levels_110 (lv c nd mk 0 x k) (nI k) K2 n σ14 0) f y (nI i)) (K := fun σ14 => LX12_levels_110 (lv c nd mk 0 x k) (nI k) K2 n σ14 0) (g := fun _ (z : Unit) => z) (c := 30) (n := n) (x := s) (y := ()) (fun m y _ => LevS τ y ∧ (∀ f, f < 30 → ga y 6 f = FI (lF nd mk c x f) (if f < m then k + 1 else k)) ∧ ∀ a, a < c → ga y 7 a = FI (lA nd mk c x a) k) (by omega) ⟨hS, fun f hf => by rw [if_neg (by omega), h6 f hf], h7⟩ (fun f y z _ => if_pos (nI_le (Nat.le_refl 30) (by omega))) (by
        rintro g i y z hi ⟨i1, i2, i3⟩
        right
        show ∃ x', (if (30 : Int32) ≤ nI i then _ else _) = _ ∧ _
        rw [if_neg (show ¬ (30 : Int32) ≤ nI i from nI_ge (b := 30) hi (by omega))]
        simp only [ld_n (i := nI i) i rfl hi (by omega), ck_n (i := nI i) i rfl hi (by omega), nI_clamp (show i < 2 ^ 31 by omega), lt_e, nI_p1, jn_e]
        have hi2 := i2 i hi
        rw [if_neg (by omega)] at hi2
        have fin : ∀ v : Int32, v = FI (lF nd mk c x i) (k + 1) → LevS τ (sa y 6 (upd (ga y 6) i v)) ∧ (∀ f, f < 30 → ga (sa y 6 (upd (ga y 6) i v)) 6 f = FI (lF nd mk c x f) (if f < i + 1 then k + 1 else k)) ∧ ∀ a, a < c → ga (sa y 6 (upd (ga y 6) i v)) 7 a = FI (lA nd mk c x a) k := by
          intro v hv
          refine ⟨⟨i1.1, fun a h6 h7 => by rw [ga_sa, if_neg h6, i1.2.1 a h6 h7], i1.2.2⟩, fun f hf => ?_, i3⟩
          rw [ga_sa, if_pos rfl, ud_s]
          by_cases e : f = i
          · subst e; rw [if_pos rfl, hv, if_pos (by omega)]
          · rw [if_neg e, i2 f hf]
            by_cases q : f < i
            · rw [if_pos q, if_pos (by omega)]
            · rw [if_neg q, if_neg (by omega)]
        have hFI : FI (lF nd mk c x i) (k + 1) = if FI (lF nd mk c x i) k = -1 then (if lF nd mk c x i k = true then nI k else -1) else FI (lF nd mk c x i) k := rfl
        rw [hi2]
        by_cases q : FI (lF nd mk c x i) k = -1
        · rw [if_pos q]
          rw [if_pos q] at hFI
          by_cases q2 : bt (lv c nd mk 0 x k) i = true
          · rw [if_pos ((shr_bit (by omega)).mpr q2)]
            exact ⟨_, rfl, fin _ (by rw [hFI, if_pos (show lF nd mk c x i k = true from q2)])⟩
          · rw [if_neg (fun h => q2 ((shr_bit (by omega)).mp h))]
            exact ⟨_, rfl, fin _ (by rw [hFI, if_neg (show ¬ lF nd mk c x i k = true from q2), q])⟩
        · rw [if_neg q]
          rw [if_neg q] at hFI
          exact ⟨_, rfl, fin _ hFI.symm⟩)
      obtain ⟨t3, e3, s3, f3, g3⟩ := st3
      rw [show LX12_levels_55 (lv c nd mk 0 x k) (nI k) (fun σ14 => LX12_levels_110 (lv c nd mk 0 x k) (nI k) K2 n σ14 0) n s 0 = _ from e3]
      have st4 := loop_rel (L := fun f i y => LX12_levels_110 (lv c nd mk 0 x k) (nI k) K2 f y (nI i)) (K := K2) (g := fun _ (z : Unit) => z) (c := c) (n := n) (x := t3) (y := ()) (fun m y _ => LevS τ y ∧ (∀ f, f < 30 → ga y 6 f = FI (lF nd mk c x f) (k + 1)) ∧ ∀ a, a < c → ga y 7 a = FI (lA nd mk c x a) (if a < m then k + 1 else k)) (by omega) ⟨s3, fun f hf => by rw [f3 f hf, if_pos hf], fun a ha => by rw [if_neg (by omega), g3 a ha]⟩ (by
        rintro g y z ⟨i1, _⟩
        show ld _ _ _ _ = _
        rw [ld172, i1.2.1 0 (by decide) (by decide), ht.1, if_pos (nI_le (Nat.le_refl c) (by omega))]) (by
        rintro g i y z hi ⟨i1, i2, i3⟩
        right
        have y0 := i1.2.1 0 (by decide) (by decide)
        show ∃ x', ld _ _ _ _ = _ ∧ _
        rw [ld172, y0, ht.1, if_neg (nI_ge hi (by omega))]
        simp only [ldA (show i < 24 by omega), ck_n (i := nI i) (n := 24) i rfl (by omega) (by omega), nI_clamp (show i < 2 ^ 31 by omega), lt_e, nI_p1, jn_e, mayBe_M (τ := y) (show i < 24 by omega), bd_e]
        rw [y0, (ht.2 i hi).1]
        have hi2 := i3 i hi
        rw [if_neg (by omega)] at hi2
        have fin : ∀ v : Int32, v = FI (lA nd mk c x i) (k + 1) → LevS τ (sa y 7 (upd (ga y 7) i v)) ∧ (∀ f, f < 30 → ga (sa y 7 (upd (ga y 7) i v)) 6 f = FI (lF nd mk c x f) (k + 1)) ∧ ∀ a, a < c → ga (sa y 7 (upd (ga y 7) i v)) 7 a = FI (lA nd mk c x a) (if a < i + 1 then k + 1 else k) := by
          intro v hv
          refine ⟨⟨i1.1, fun a h6 h7 => by rw [ga_sa, if_neg h7, i1.2.1 a h6 h7], i1.2.2⟩, i2, fun f hf => ?_⟩
          rw [ga_sa, if_pos rfl, ud_s]
          by_cases e : f = i
          · subst e; rw [if_pos rfl, hv, if_pos (by omega)]
          · rw [if_neg e, i3 f hf]
            by_cases q : f < i
            · rw [if_pos q, if_pos (by omega)]
            · rw [if_neg q, if_neg (by omega)]
        have hFI : FI (lA nd mk c x i) (k + 1) = if FI (lA nd mk c x i) k = -1 then (if lA nd mk c x i k = true then nI k else -1) else FI (lA nd mk c x i) k := rfl
        rw [hi2]
        by_cases q : FI (lA nd mk c x i) k = -1
        · rw [if_pos q]
          rw [if_pos q] at hFI
          by_cases q2 : sub (nd i) (lv c nd mk 0 x k)
          · rw [if_pos q2, if_neg one_ne]
            exact ⟨_, rfl, fin _ (by rw [hFI, if_pos (show lA nd mk c x i k = true from decide_eq_true q2)])⟩
          · rw [if_neg q2, if_pos rfl]
            exact ⟨_, rfl, fin _ (by rw [hFI, if_neg (show ¬ lA nd mk c x i k = true from fun h => q2 (of_decide_eq_true h)), q])⟩
        · rw [if_neg q]
          rw [if_neg q] at hFI
          exact ⟨_, rfl, fin _ hFI.symm⟩)
      obtain ⟨t4, e4, s4, f4, g4⟩ := st4
      rw [show LX12_levels_110 (lv c nd mk 0 x k) (nI k) K2 n t3 0 = _ from e4, ← hK2]
      have hT : TbM c nd mk t4 := ⟨by rw [s4.2.1 0 (by decide) (by decide)]; exact ht.1, fun a ha => by rw [s4.2.1 0 (by decide) (by decide)]; exact ht.2 a ha⟩
      show ∃ t, bd (f_X12_nextLevel n t4 (lv c nd mk 0 x k) 0) _ = _ ∧ _
      rw [next_M h24 hT hn, bd_e, lt_e, nI_p1]
      exact ih f (k + 1) t4 (by omega) (by omega) s4 f4 (fun a ha => by rw [g4 a ha, if_pos ha])
  have := key 31 n 0 t2 (by omega) (by omega) s2 f2 (fun a ha => g2 a (by omega))
  rw [show lv c nd mk 0 x 0 = x from nw_0 x] at this
  exact this
