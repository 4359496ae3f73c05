/-! walk -/
theorem RelC.seed {c : Nat} {σ τ : SC} (h : RelC c σ τ) (v : Int32) : RelC c (si σ 4 v) (sa τ 0 (upd (ga τ 0) 171 v)) := by
  obtain ⟨⟨n1, n2, n3, n4, n5, n6, n7, n8, n9, n10⟩, h2, h3, h4, h5, h6, h7, h8, h9⟩ := h
  refine ⟨⟨n1, n2, ?_, ?_, n5, ?_, n7, ?_, n9, ?_⟩, h2.upd n1 (k := 171) (by omega) v, h3, h4, h5, h6, h7, h8, h9⟩
  · show upd (ga τ 0) 171 v 172 = _
    rw [ud_s, if_neg (by decide)]; exact n3
  · show gi σ 1 = upd (ga τ 0) 171 v 168
    rw [ud_s, if_neg (by decide)]; exact n4
  · show gi σ 2 = upd (ga τ 0) 171 v 169
    rw [ud_s, if_neg (by decide)]; exact n6
  · show gi σ 3 = upd (ga τ 0) 171 v 170
    rw [ud_s, if_neg (by decide)]; exact n8
  · show v = upd (ga τ 0) 171 v 171
    rw [ud_s, if_pos rfl]
theorem may_bit {c : Nat} (h24 : c ≤ 24) {nd : Nat → Int32} {x : Int32} {a : Nat} (ha : a < 32) : bt (mayS c nd x) a = true ↔ a < c ∧ sub (nd a) x := by
  have := fo_inv (g := may_g nd x) (c := c) (x := (0 : Int32)) (fun k y => ∀ a, a < 32 → (bt y a = true ↔ a < k ∧ sub (nd a) x)) (fun a _ => ⟨fun h => (by rw [b_0] at h; cases h), fun h => (by omega)⟩) (by
    rintro i y hi ih a ha
    unfold may_g
    by_cases q : sub (nd i) x
    · rw [if_pos q, b_or, b_pw (by omega) ha, Bool.or_eq_true, ih a ha, decide_eq_true_eq]
      constructor
      · rintro (⟨h1, h2⟩ | rfl)
        · exact ⟨by omega, h2⟩
        · exact ⟨by omega, q⟩
      · rintro ⟨h1, h2⟩
        by_cases e : a = i
        · exact Or.inr e
        · exact Or.inl ⟨by omega, h2⟩
    · rw [if_neg q, ih a ha]
      constructor
      · rintro ⟨h1, h2⟩; exact ⟨by omega, h2⟩
      · rintro ⟨h1, h2⟩
        by_cases e : a = i
        · subst e; exact absurd h2 q
        · exact ⟨by omega, h2⟩)
  exact this a ha
theorem cb_nth {x : Int32} {r : Nat} : ∀ {n}, r < cb x n → ∃ a, a < n ∧ bt x a = true ∧ cb x a = r
  | n + 1, h => by
    have h' : r < cb x n + (if bt x n = true then 1 else 0) := h
    by_cases q : r < cb x n
    · obtain ⟨a, h1, h2, h3⟩ := cb_nth q
      exact ⟨a, by omega, h2, h3⟩
    · by_cases q2 : bt x n = true
      · rw [if_pos q2] at h'
        exact ⟨n, by omega, q2, by omega⟩
      · rw [if_neg q2] at h'; omega
theorem cb_up {x : Int32} {i : Nat} : ∀ d, cb x i ≤ cb x (i + d)
  | 0 => Nat.le_refl _
  | d + 1 => Nat.le_trans (cb_up d) (by show cb x (i + d) ≤ cb x (i + d) + _; omega)
theorem cb_hi {x : Int32} {c : Nat} (h : ∀ a, a < 32 → c ≤ a → bt x a = false) : ∀ d, c + d ≤ 32 → cb x (c + d) = cb x c
  | 0, _ => rfl
  | d + 1, hd => by
    show cb x (c + d) + (if bt x (c + d) = true then 1 else 0) = _
    rw [cb_hi h d (by omega), h (c + d) (by omega) (by omega)]; rfl
theorem cb_0 {x : Int32} (h : cb x 32 = 0) : x = 0 := by
  rw [b_zero]
  intro i hi
  cases hb : bt x i with
  | false => rfl
  | true =>
    have h1 : cb x (i + 1) = cb x i + 1 := by show cb x i + _ = _; rw [if_pos hb]
    have h2 := cb_up (x := x) (i := i + 1) (32 - (i + 1))
    rw [show i + 1 + (32 - (i + 1)) = 32 by omega] at h2
    omega
/-- the drawn number -/
theorem drawn_n (v : Int32) {m : Nat} (hm : 0 < m) (hm2 : m < 2 ^ 31) : ∃ r, r < m ∧ ((v.toUInt32 >>> ((16 : Int32).toUInt32 &&& Int32.toUInt32 31)).toInt32) - ((v.toUInt32 >>> ((16 : Int32).toUInt32 &&& Int32.toUInt32 31)).toInt32) / nI m * nI m = nI r := by
  have h1 := pk_ushr v 16 16 (by decide)
  have h2 := v.toBitVec.isLt
  have e := N_nI h1 (by omega)
  rw [e, pk_rem (by omega) hm hm2]
  exact ⟨_, Nat.mod_lt _ hm, rfl⟩
theorem walk_count {τ : SC} {n c : Nat} {x : Int32} (hn : 100 < n) (h24 : c ≤ 24) (hc : ga τ 0 172 = nI c) (hx : ga τ 0 170 = x) (K : Int32 → Option (Int32 × SC)) : LX12_walk_34 τ K n 0 0 = K (nI (cb (mayS c (ga τ 0) x) 32)) := by
  have := loop_rel (L := fun f i y => LX12_walk_34 τ K f y (nI i)) (K := K) (g := fun _ (z : Unit) => z) (c := c) (n := n) (x := 0) (y := ()) (fun k y _ => y = nI (cb (mayS c (ga τ 0) x) k)) (by omega) rfl (by
    intro f y z _
    show ld _ _ _ _ = _
    rw [ld172, hc, if_pos (nI_le (Nat.le_refl c) (by omega))]) (by
    rintro f i y z hi rfl
    right
    show ∃ x', ld _ _ _ _ = _ ∧ _ = nI (cb (mayS c (ga τ 0) x) i + _)
    rw [ld172, hc, if_neg (nI_ge hi (by omega)), ld170, hx, mayBe_M (by omega), bd_e, nI_p1]
    by_cases q : sub (ga τ 0 i) x
    · rw [if_pos q, if_neg one_ne, if_pos ((may_bit h24 (by omega)).mpr ⟨hi, q⟩), lt_e, lt_e, nI_p1]
      exact ⟨_, rfl, rfl⟩
    · rw [if_neg q, if_pos rfl, if_neg (fun h => q ((may_bit h24 (by omega)).mp h).2), lt_e, lt_e, Int32.add_zero]
      exact ⟨_, rfl, rfl⟩)
  obtain ⟨y, e1, e2⟩ := this
  rw [show LX12_walk_34 τ K n 0 0 = K y from e1, e2]
  have h := cb_hi (x := mayS c (ga τ 0) x) (c := c) (fun a ha hca => by
    cases hb : bt (mayS c (ga τ 0) x) a with
    | false => rfl
    | true => have := ((may_bit h24 ha).mp hb).1; omega) (32 - c) (by omega)
  rw [show c + (32 - c) = 32 by omega] at h
  rw [h]
theorem behind_C {n a r : Nat} {x : Int32} (hn : 100 < n) (ha : a < 24) (hb : bt x a = true) (hr : cb x a = r) : f_X11_actionBehind n x (nI r) = some (nI a) := by
  have key : ∀ (d f i : Nat), i + d = a → d < f → LX11_actionBehind_4 x (nI r) (fun _ => some (-1)) f (nI (cb x i)) (nI i) = some (nI a) := by
    intro d
    induction d with
    | zero =>
      intro f i hi hf
      obtain ⟨f, rfl⟩ : ∃ f', f = f' + 1 := ⟨f - 1, by omega⟩
      have e : i = a := by omega
      subst e
      rw [LX11_actionBehind_4, if_neg (show ¬ (24 : Int32) ≤ nI i from nI_ge (b := 24) ha (by omega)), if_neg (and_sh1 (by omega) hb), if_pos (by rw [hr])]
    | succ d ih =>
      intro f i hi hf
      obtain ⟨f, rfl⟩ : ∃ f', f = f' + 1 := ⟨f - 1, by omega⟩
      have h1 := cb_up (x := x) (i := i + 1) d
      rw [show i + 1 + d = a by omega] at h1
      have h2 : cb x (i + 1) = cb x i + (if bt x i = true then 1 else 0) := rfl
      have h3 := cb_le x i
      have h4 := cb_le x a
      rw [LX11_actionBehind_4, if_neg (show ¬ (24 : Int32) ≤ nI i from nI_ge (b := 24) (by omega) (by omega))]
      by_cases q : bt x i = true
      · rw [if_pos q] at h2
        rw [if_neg (and_sh1 (by omega) q), if_neg (nI_ne (by omega) (by omega) (by omega)), lt_e, lt_e, nI_p1, nI_p1]
        have := ih f (i + 1) (by omega) (by omega)
        rw [h2] at this
        exact this
      · rw [if_neg q] at h2
        rw [if_pos (and_sh0 (by omega) q), lt_e, nI_p1]
        have := ih f (i + 1) (by omega) (by omega)
        rw [h2] at this
        exact this
  exact key a n 0 (by omega) (by omega)
theorem behind_walk {τ : SC} {n c a r : Nat} {x : Int32} (hn : 100 < n) (h24 : c ≤ 24) (hx : ga τ 0 170 = x) (ha : a < c) (hb : bt (mayS c (ga τ 0) x) a = true) (hr : cb (mayS c (ga τ 0) x) a = r) (K : Int32 → Option (Int32 × SC)) : LX12_walk_94 τ K n (nI r) 0 = K (nI a) := by
  have key : ∀ (d f i : Nat), i + d = a → d < f → LX12_walk_94 τ K f (nI (r - cb (mayS c (ga τ 0) x) i)) (nI i) = K (nI a) := by
    intro d
    induction d with
    | zero =>
      intro f i hi hf
      obtain ⟨f, rfl⟩ : ∃ f', f = f' + 1 := ⟨f - 1, by omega⟩
      have e : i = a := by omega
      subst e
      rw [LX12_walk_94, ld170, hx, mayBe_M (by omega), bd_e, if_pos ((may_bit h24 (by omega)).mp hb).2]
      simp only [jn_e]
      rw [if_neg one_ne, hr, Nat.sub_self, if_pos (show nI 0 ≤ 0 by decide)]
    | succ d ih =>
      intro f i hi hf
      obtain ⟨f, rfl⟩ : ∃ f', f = f' + 1 := ⟨f - 1, by omega⟩
      have h1 := cb_up (x := mayS c (ga τ 0) x) (i := i + 1) d
      rw [show i + 1 + d = a by omega] at h1
      have h2 : cb (mayS c (ga τ 0) x) (i + 1) = cb (mayS c (ga τ 0) x) i + (if bt (mayS c (ga τ 0) x) i = true then 1 else 0) := rfl
      have h4 := cb_le (mayS c (ga τ 0) x) a
      rw [LX12_walk_94, ld170, hx, mayBe_M (by omega), bd_e]
      simp only [jn_e, ld170, hx, mayBe_M (τ := τ) (x := x) (show i < 24 by omega), bd_e]
      by_cases q : sub (ga τ 0 i) x
      · rw [if_pos ((may_bit h24 (by omega)).mpr ⟨by omega, q⟩)] at h2
        rw [if_pos q, if_neg one_ne, if_neg one_ne, if_neg (show ¬ nI (r - cb (mayS c (ga τ 0) x) i) ≤ 0 from nI_ge (a := 0) (by omega) (by omega)), lt_e, lt_e, nI_p1]
        have := ih f (i + 1) (by omega) (by omega)
        rw [show nI (r - cb (mayS c (ga τ 0) x) i) - 1 = nI (r - cb (mayS c (ga τ 0) x) (i + 1)) by
          rw [h2, show r - cb (mayS c (ga τ 0) x) i = (r - (cb (mayS c (ga τ 0) x) i + 1)) + 1 by omega, nI_pred]]
        exact this
      · rw [if_neg (fun h => q ((may_bit h24 (by omega)).mp h).2)] at h2
        rw [if_neg q, if_pos rfl, if_pos rfl, lt_e, lt_e, nI_p1]
        have := ih f (i + 1) (by omega) (by omega)
        rw [h2] at this
        rw [show nI (r - cb (mayS c (ga τ 0) x) i) - 0 = nI (r - cb (mayS c (ga τ 0) x) i) from Int32.sub_zero _]
        exact this
  exact key a n 0 (by omega) (by omega)
theorem ag_walk_ok {n : Nat} (hn : 1000000 ≤ n) : ag_walk n Rel := by
  rintro σ τ a1 ⟨c, h⟩
  have h24 := h.1.1
  unfold f_X11_walk f_X12_walk
  rcases inc_c (x := a1) (lo := 1) (hi := 40) (by decide) (by decide) with ⟨p, m, hm1, hm2, rfl⟩ | ⟨p, q⟩
  rotate_left
  · rw [show f_X12_in a1 1 40 = 0 from p, if_pos rfl, RM5]
    by_cases q0 : a1 < 1
    · rw [if_pos q0, RC5]; exact ⟨_, _, _, rfl, rfl, c, h.ref 5⟩
    · rcases q with q | q
      · exact absurd (show a1 < 1 from q) q0
      · rw [if_neg q0, if_neg (show ¬ a1 ≤ 40 from Int32.not_le.mpr q), RC5]; exact ⟨_, _, _, rfl, rfl, c, h.ref 5⟩
  rw [show f_X12_in (nI m) 1 40 = 1 from p, if_neg one_ne, if_neg (show ¬ nI m < 1 from nI_nlt (b := 1) hm1 (by omega)), if_pos (show nI m ≤ 40 from nI_le (b := 40) hm2 (by omega)), lt_e, lt_e]
  have key : ∀ (d f f2 t : Nat) (s u : SC), t + d = m → d < f → d < f2 → RelC c s u → gi s 0 = nI t → ∃ r s' u', LX11_walk_25 n (nI m) (fun σ15 => some ((gi σ15 0), σ15)) f s (nI t) = some (r, s') ∧ LX12_walk_22 n (nI m) (fun σ28 => some ((gi σ28 12), σ28)) f2 u = some (r, u') ∧ RelC c s' u' := by
    intro d
    induction d with
    | zero =>
      intro f f2 t s u htm hf hf2 hr h0
      obtain ⟨f, rfl⟩ : ∃ f', f = f' + 1 := ⟨f - 1, by omega⟩
      obtain ⟨f2, rfl⟩ : ∃ f', f2 = f' + 1 := ⟨f2 - 1, by omega⟩
      obtain ⟨t', ht', e1, e2, e3⟩ := hr.2.2.2.2.2.1
      have et : gi u 12 = nI t := by rw [e2, ← e1, h0]
      rw [LX11_walk_25, LX12_walk_22, et, if_pos (nI_le (by omega) (by omega)), if_pos (nI_le (by omega) (by omega)), h0]
      exact ⟨_, s, u, rfl, rfl, hr⟩
    | succ d ih =>
      intro f f2 t s u htm hf hf2 hr h0
      obtain ⟨f, rfl⟩ : ∃ f', f = f' + 1 := ⟨f - 1, by omega⟩
      obtain ⟨f2, rfl⟩ : ∃ f', f2 = f' + 1 := ⟨f2 - 1, by omega⟩
      obtain ⟨t', ht', e1, e2, e3⟩ := hr.2.2.2.2.2.1
      have et : gi u 12 = nI t := by rw [e2, ← e1, h0]
      have hx : ga u 0 170 = gi s 3 := hr.1.2.2.2.2.2.2.2.1.symm
      have em : mayS c (ga u 0) (gi s 3) = mayS c (ga s 0) (gi s 3) := may_eq (fun a ha => (hr.2.1 a ha).1) _
      rw [LX11_walk_25, LX12_walk_22, et, if_neg (nI_ge (by omega) (by omega)), if_neg (nI_ge (by omega) (by omega)), may_C h24 hr.1.2.1 (by omega), bd_e, walk_count (show 100 < n by omega) h24 hr.1.2.2.1 hx, em]
      generalize hM : mayS c (ga s 0) (gi s 3) = M at em
      by_cases q : M = 0
      · have hz : cb M 32 = 0 := by
          rw [q]
          have : ∀ k, cb 0 k = 0 := by
            intro k
            induction k with
            | zero => rfl
            | succ k ih => show cb 0 k + _ = 0; rw [ih, b_0, if_neg (by decide)]
          exact this 32
        rw [if_pos q, hz, if_pos (show nI 0 = 0 from rfl), h0]
        exact ⟨_, s, u, rfl, rfl, hr⟩
      · have hz : 0 < cb M 32 := Nat.pos_of_ne_zero (fun h => q (cb_0 h))
        have hle := cb_le M 32
        have hn0 : ¬ nI (cb M 32) = 0 := nI_ne0 hz (by omega)
        rw [if_neg q, if_neg hn0, bitCount_ok]
        unfold f_X11_draw f_X12_drawn
        rw [lt_e, if_neg (nI_nle hz (by omega)), dv, if_neg hn0]
        obtain ⟨r, hr1, hr2⟩ := drawn_n (gi (si s 4 (gi s 4 * 1103515245 + 12345)) 4) hz (show cb M 32 < 2 ^ 31 by omega)
        rw [hr2, bd2_e, ld171, ck_n (n := 173) (i := 171) 171 rfl (by omega) (by omega), lt_e, ld171, dv, if_neg hn0]
        have h10 : ga u 0 171 = gi s 4 := hr.1.2.2.2.2.2.2.2.2.2.symm
        have e171 : ga (sa u 0 (upd (ga u 0) (171 : Int32).toNatClampNeg (ga u 0 171 * 1103515245 + 12345))) 0 171 = gi (si s 4 (gi s 4 * 1103515245 + 12345)) 4 := by
          rw [h10]; exact ud_t (ga u 0) 171 _
        rw [e171, hr2, bd2_e]
        have hseed : RelC c (si s 4 (gi s 4 * 1103515245 + 12345)) (sa u 0 (upd (ga u 0) (171 : Int32).toNatClampNeg (ga u 0 171 * 1103515245 + 12345))) := by
          rw [h10]; exact hr.seed _
        have h0' : gi (si s 4 (gi s 4 * 1103515245 + 12345)) 0 = nI t := h0
        have h3' : gi (si s 4 (gi s 4 * 1103515245 + 12345)) 3 = gi s 3 := rfl
        have ha0 : ga (si s 4 (gi s 4 * 1103515245 + 12345)) 0 = ga s 0 := rfl
        generalize si s 4 (gi s 4 * 1103515245 + 12345) = s1 at hseed h0' h3' ha0 ⊢
        generalize sa u 0 (upd (ga u 0) (171 : Int32).toNatClampNeg (ga u 0 171 * 1103515245 + 12345)) = u1 at hseed ⊢
        have hx1 : ga u1 0 170 = gi s 3 := by rw [← h3']; exact hseed.1.2.2.2.2.2.2.2.1.symm
        have em1 : mayS c (ga u1 0) (gi s 3) = M := by rw [← hM, ← ha0]; exact may_eq (fun a ha => (hseed.2.1 a ha).1) _
        obtain ⟨a, ha, hb, hcb⟩ := cb_nth hr1
        have hac : a < c := ((may_bit h24 ha).mp (by rw [hM]; exact hb)).1
        rw [behind_C (show 100 < n by omega) (by omega) hb hcb, bd_e, behind_walk (show 100 < n by omega) h24 hx1 hac (by rw [em1]; exact hb) (by rw [em1]; exact hcb)]
        obtain ⟨s2, u2, w1, w2, w3, w4⟩ := step_ok hseed (show t < 40 by omega) h0' hac
        rw [w1, w2, bd_e, bd_e, lt_e, nI_p1]
        exact ih f f2 (t + 1) s2 u2 (by omega) (by omega) (by omega) w3 w4
  obtain ⟨r, s', u', k1, k2, k3⟩ := key m n n 0 (si σ 0 0) (si τ 12 0) (by omega) (by omega) (by omega) h.trace0 rfl
  exact ⟨r, s', u', k1, k2, c, k3⟩
