/-! says, may, put, actionOf, trace, status, image -/
theorem ld00 {β : Type} {f : Nat → Int32} {k : Int32 → Option β} {a : Nat} (h : a < 24) : ld f 173 (0 + nI a) k = k (f a) := ld_n a (nI_z a) (by omega) (by omega)
theorem ld24 {β : Type} {f : Nat → Int32} {k : Int32 → Option β} {a : Nat} (h : a < 24) : ld f 173 (24 + nI a) k = k (f (24 + a)) := ld_n (24 + a) (nI_add 24 a) (by omega) (by omega)
theorem ld48 {β : Type} {f : Nat → Int32} {k : Int32 → Option β} {a : Nat} (h : a < 24) : ld f 173 (48 + nI a) k = k (f (48 + a)) := ld_n (48 + a) (nI_add 48 a) (by omega) (by omega)
theorem ld72 {β : Type} {f : Nat → Int32} {k : Int32 → Option β} {a : Nat} (h : a < 24) : ld f 173 (72 + nI a) k = k (f (72 + a)) := ld_n (72 + a) (nI_add 72 a) (by omega) (by omega)
theorem ld96 {β : Type} {f : Nat → Int32} {k : Int32 → Option β} {a : Nat} (h : a < 24) : ld f 173 (96 + nI a) k = k (f (96 + a)) := ld_n (96 + a) (nI_add 96 a) (by omega) (by omega)
theorem ld120 {β : Type} {f : Nat → Int32} {k : Int32 → Option β} {a : Nat} (h : a < 24) : ld f 173 (120 + nI a) k = k (f (120 + a)) := ld_n (120 + a) (nI_add 120 a) (by omega) (by omega)
theorem ld144 {β : Type} {f : Nat → Int32} {k : Int32 → Option β} {a : Nat} (h : a < 24) : ld f 173 (144 + nI a) k = k (f (144 + a)) := ld_n (144 + a) (nI_add 144 a) (by omega) (by omega)
theorem ld172 {β : Type} {f : Nat → Int32} {k : Int32 → Option β} : ld f 173 172 k = k (f 172) := ld_n (i := 172) 172 rfl (by omega) (by omega)
theorem ldA {β : Type} {f : Nat → Int32} {k : Int32 → Option β} {a : Nat} (h : a < 24) : ld f 24 (nI a) k = k (f a) := ld_n a rfl h (by omega)
theorem plain_ok {c : Nat} {σ : SC} {f : Nat → Int32} {τ : SC} (hf : ga τ 0 = f) (h24 : c ≤ 24) (ht : Tab c f σ) (hw : ∀ a, a < c → WfA σ a) : ∀ (n a : Nat), a < c → a < n → f_X12_plain n τ (nI a) = some (ga σ 7 a) := by
  subst hf
  intro n
  induction n with
  | zero => intro a _ h; omega
  | succ n ih =>
    intro a hac han
    obtain ⟨t0, t1, t2, t3, t4, t5, t6⟩ := ht a hac
    obtain ⟨_, _, _, _, hk⟩ := hw a hac
    rw [f_X12_plain, ld96 (by omega), t4]
    rcases hk with ⟨k4, _, _, k7⟩ | ⟨i, j, hi, hj, k5, k6, k7, k4⟩
    · rw [k4, if_pos rfl, k7]
    · rw [if_neg, ld120 (by omega), t5, k5, ih i (by omega) (by omega), bd_e, ld144 (by omega), t6, k6, ih j (by omega) (by omega), bd_e, k7]
      rcases k4 with k4 | k4
      · rw [k4]; decide
      · rw [k4]; decide
theorem ag_says_ok (n : Nat) : ag_says n Rel := by
  rintro σ τ a1 a2 ⟨c, h⟩
  unfold f_X11_says f_X12_says
  have h24 := h.1.1
  rcases shelf_c a1 with ⟨j, hj, rfl, e1, e2⟩ | ⟨e1, e2⟩
  · rw [e1, e2, if_neg one_ne, if_neg one_ne]
    simp only [jn_e, lt_e, ld_n (i := nI j) j rfl hj (by omega)]
    rcases rng (x := a2) (m := 2) 2 rfl (by decide) with ⟨k, hk, rfl, p1, p2, p3⟩ | ⟨p3, p⟩
    · rw [if_neg p1, if_pos p2, p3, if_neg one_ne]
      rcases shf_k h24 (h.2.2.2.2.2.2.1 j hj) with ⟨h1, h2, _, _⟩ | ⟨a, h1, h2, h3, h4, _, _⟩ | ⟨q, z, h1, h2, h3, h4, h5, h6, h7, _, _⟩
      · rw [h1, h2, RC2, RM2]
        refine ⟨-3, rfC σ 2, rfM τ 2, ?_, ?_, c, h.ref 2⟩
        · simp [bd2_e]
        · rw [show f_X12_in (-1) 0 3 = 0 from rfl]; simp [bd2_e]
      · rw [h2, h3, h4, if_neg (nI_nm1 (by omega)), has_1 h.1.2.1 h24 ⟨a, h1, rfl⟩, if_neg one_ne, show f_X12_in 4 0 3 = 0 from rfl, if_pos rfl, if_pos rfl, if_neg (show ¬ (4 : Int32) = -1 by decide)]
        obtain ⟨t0, t1, t2, t3, t4, t5, t6⟩ := h.2.1 a h1
        rw [ldA (by omega), ld96 (by omega), t4]
        by_cases q : nI k ≤ ga σ 4 a
        · rw [if_pos q, if_pos q, ldA (by omega), ldA (by omega), ldA (by omega), ldA (by omega), ld72 (by omega), ld120 (by omega), ld144 (by omega), t3, t5, t6, plain_ok rfl h24 h.2.1 h.2.2.1 30 a h1 (by omega), bd_e]
          by_cases w : nI k = 0
          · rw [if_pos w, if_pos w]; exact ⟨_, _, _, rfl, rfl, c, h⟩
          · rw [if_neg w, if_neg w]
            by_cases w : nI k = 1
            · rw [if_pos w, if_pos w]; exact ⟨_, _, _, rfl, rfl, c, h⟩
            · rw [if_neg w, if_neg w]; exact ⟨_, _, _, rfl, rfl, c, h⟩
        · rw [if_neg q, if_neg q, RC1, RM1]; exact ⟨_, _, _, rfl, rfl, c, h.ref 1⟩
      · rw [h3, h4, if_neg (nI_nm1 (by omega)), has_0 h.1.2.1 h24 (fun ⟨y, hy, e⟩ => nI_ne (a := 100 + q) (b := y) (by omega) (by omega) (by omega) e), if_pos rfl, show f_X12_in (nI q) 0 3 = 1 from inc_1 (lo := 0) (hi := 3) rfl (by omega) (by omega) (by decide), if_neg one_ne, RC1, RM1]
        exact ⟨_, _, _, rfl, rfl, c, h.ref 1⟩
    · rw [p3, if_pos rfl, RM0]
      rcases p with p | ⟨p, p'⟩
      · rw [if_pos p, RC0]; exact ⟨_, _, _, rfl, rfl, c, h.ref 0⟩
      · rw [if_neg p, if_neg p', RC0]; exact ⟨_, _, _, rfl, rfl, c, h.ref 0⟩
  · rw [e1, e2, if_pos rfl, if_pos rfl, RC0, RM0]
    exact ⟨_, _, _, rfl, rfl, c, h.ref 0⟩
def may_g (nd : Nat → Int32) (x : Int32) (i : Nat) (y : Int32) : Int32 := if sub (nd i) x then y ||| pw i else y
def mayS (c : Nat) (nd : Nat → Int32) (x : Int32) : Int32 := fo (may_g nd x) c 0
theorem may_C {σ : SC} {c n : Nat} (h24 : c ≤ 24) (hc : gi σ 6 = nI c) (hn : 100 < n) (x : Int32) : f_X0_allowedIn n σ x = some (mayS c (ga σ 0) x) := by
  unfold f_X0_allowedIn
  refine (loop_fo (L := fun f i y => LX0_allowedIn_4 σ x (fun w6 => some w6) f y (nI i)) (K := fun w6 => some w6) (g := may_g (ga σ 0) x) (c := c) (n := n) (x := 0) (fun _ _ => True) (by omega) trivial ?_ ?_).1
  · intro f y _
    show (if gi σ 6 ≤ nI c then _ else _) = _
    rw [if_pos (by rw [hc]; exact nI_le (Nat.le_refl c) (by omega))]
  · intro f i y hi _
    refine ⟨?_, trivial⟩
    show (if gi σ 6 ≤ nI i then _ else _) = _
    rw [hc, if_neg (nI_ge hi (by omega)), allowed_C (by omega), bd_e, nI_p1]
    unfold may_g
    by_cases q : sub (ga σ 0 i) x
    · rw [if_pos q, if_neg one_ne, if_pos q]; rfl
    · rw [if_neg q, if_pos rfl, if_neg q]; rfl
theorem or_0 (x : Int32) : x ||| 0 = x := b_ext fun i _ => by rw [b_or, b_0, Bool.or_false]
theorem may_M {τ : SC} {c n : Nat} (h24 : c ≤ 24) (hc : ga τ 0 172 = nI c) (hn : 100 < n) (x : Int32) (K : Int32 → Option (Int32 × SC)) : LX12_may_18 τ x K n 0 0 = K (mayS c (ga τ 0) x) := by
  refine (loop_fo (L := fun f i y => LX12_may_18 τ x K f y (nI i)) (K := K) (g := may_g (ga τ 0) x) (c := c) (n := n) (x := 0) (fun _ _ => True) (by omega) trivial ?_ ?_).1
  · intro f y _
    show ld _ _ _ _ = _
    rw [ld172, hc, if_pos (nI_le (Nat.le_refl c) (by omega))]
  · intro f i y hi _
    refine ⟨?_, trivial⟩
    show ld _ _ _ _ = _
    rw [ld172, hc, if_neg (nI_ge hi (by omega)), mayBe_M (by omega), bd_e, nI_p1]
    unfold may_g
    by_cases q : sub (ga τ 0 i) x
    · rw [if_pos q, if_neg one_ne, if_pos q]; rfl
    · rw [if_neg q, if_pos rfl, if_neg q, or_0]; rfl
theorem may_eq {c : Nat} {f g : Nat → Int32} (h : ∀ a, a < c → f a = g a) (x : Int32) : mayS c f x = mayS c g x :=
  fo_cong (fun i y hi => by unfold may_g; rw [h i hi]) 0
theorem ag_may_ok {n : Nat} (hn : 1000000 ≤ n) : ag_may n Rel := by
  rintro σ τ a1 ⟨c, h⟩
  unfold f_X11_may f_X12_may
  rcases set_c a1 with ⟨hs, e1, e2⟩ | ⟨e1, e2⟩
  · rw [e1, e2, if_neg one_ne, if_neg one_ne, may_C h.1.1 h.1.2.1 (by omega), may_M h.1.1 h.1.2.2.1 (by omega), may_eq (fun a ha => (h.2.1 a ha).1.symm)]
    exact ⟨_, _, _, rfl, rfl, c, h⟩
  · rw [e1, e2, if_pos rfl, if_pos rfl, RC5, RM5]
    exact ⟨_, _, _, rfl, rfl, c, h.ref 5⟩
theorem ag_actionOf_ok (n : Nat) : ag_actionOf n Rel := by
  rintro σ τ a1 a2 ⟨c, h⟩
  unfold f_X11_actionOf f_X12_actionOf
  have h24 := h.1.1
  rcases Classical.em (inR a1 c) with ha | ha
  · rw [has_1 h.1.2.1 h24 ha, isAct_1 h.1.2.2.1 h24 ha, if_neg one_ne, bd_e, if_neg one_ne]
    obtain ⟨a, hac, rfl⟩ := ha
    obtain ⟨t0, t1, t2, t3, t4, t5, t6⟩ := h.2.1 a hac
    have h' : a < 24 := by omega
    simp only [ldA h', ld00 h', ld24 h', ld48 h', ld72 h', ld96 h', ld120 h', ld144 h', t0, t1, t2, t3, t4, t5, t6]
    rcases rng (x := a2) (m := 6) 6 rfl (by decide) with ⟨k, hk, rfl, p1, p2, p3⟩ | ⟨p3, p⟩
    · rw [p3, if_neg one_ne]
      match k, hk with
      | 0, _ => exact ⟨_, _, _, rfl, rfl, c, h⟩
      | 1, _ => exact ⟨_, _, _, rfl, rfl, c, h⟩
      | 2, _ => exact ⟨_, _, _, rfl, rfl, c, h⟩
      | 3, _ => exact ⟨_, _, _, rfl, rfl, c, h⟩
      | 4, _ => exact ⟨_, _, _, rfl, rfl, c, h⟩
      | 5, _ => exact ⟨_, _, _, rfl, rfl, c, h⟩
      | 6, _ => exact ⟨_, _, _, rfl, rfl, c, h⟩
    · have no : ∀ k, k ≤ 6 → ¬ a2 = nI k := by
        rintro k hk rfl
        rcases p with p | ⟨_, p⟩
        · exact nI_pos (by omega) p
        · exact p (nI_le (a := k) (b := 6) hk (by omega))
      rw [p3, if_pos rfl, RM4, if_neg (show ¬ a2 = 0 from no 0 (by omega)), if_neg (show ¬ a2 = 1 from no 1 (by omega)), if_neg (show ¬ a2 = 2 from no 2 (by omega)), if_neg (show ¬ a2 = 3 from no 3 (by omega)), if_neg (show ¬ a2 = 4 from no 4 (by omega)), if_neg (show ¬ a2 = 5 from no 5 (by omega)), if_neg (show ¬ a2 = 6 from no 6 (by omega)), RC4]
      exact ⟨_, _, _, rfl, rfl, c, h.ref 4⟩
  · rw [has_0 h.1.2.1 h24 ha, isAct_0 h.1.2.2.1 h24 ha, if_pos rfl, bd_e, if_pos rfl, RC4, RM4]
    exact ⟨_, _, _, rfl, rfl, c, h.ref 4⟩
theorem ag_trace_ok (n : Nat) : ag_trace n Rel := by
  rintro σ τ a1 ⟨c, h⟩
  obtain ⟨t, ht, t1, t2, t3⟩ := h.2.2.2.2.2.1
  unfold f_X11_trace f_X12_trace
  rw [t1, t2]
  rcases Classical.em (inR a1 t) with ha | ha
  · rw [in_1 (by omega) ha, if_neg one_ne]
    obtain ⟨i, hi, rfl⟩ := ha
    rw [if_neg (nI_pos (by omega)), if_neg (nI_ge hi (by omega)), ld_n i rfl (by omega) (by omega), ld_n i rfl (by omega) (by omega), t3 i hi]
    exact ⟨_, rfl, rfl, c, h⟩
  · rw [in_0 (by omega) ha, if_pos rfl]
    refine ⟨-1, ?_, rfl, c, h⟩
    rw [inR_iff (by omega)] at ha
    by_cases q : a1 < 0
    · rw [if_pos q]
    · rw [if_neg q, if_pos (Classical.byContradiction fun q2 => ha ⟨q, q2⟩)]
theorem Tab.upd {c : Nat} {f : Nat → Int32} {σ : SC} (h : Tab c f σ) (h24 : c ≤ 24) {k : Nat} (hk : 168 ≤ k) (v : Int32) : Tab c (upd f k v) σ := by
  intro a ha
  have := h a ha
  simp only [ud_s]
  rw [if_neg (by omega), if_neg (by omega), if_neg (by omega), if_neg (by omega), if_neg (by omega), if_neg (by omega), if_neg (by omega)]
  exact this
theorem ag_put_ok (n : Nat) : ag_put n Rel := by
  rintro σ τ a1 a2 ⟨c, h⟩
  unfold f_X11_put f_X12_put
  have h24 := h.1.1
  obtain ⟨⟨n1, n2, n3, n4, n5, n6, n7, n8, n9, n10⟩, h2, h3, h4, h5, h6, h7, h8, h9⟩ := h
  rcases rng (x := a1) (m := 2) 2 rfl (by decide) with ⟨k, hk, rfl, p1, p2, p3⟩ | ⟨p3, p⟩
  · rw [p3, if_neg p1, if_pos p2, if_neg one_ne]
    rcases set_c a2 with ⟨hs, e1, e2⟩ | ⟨e1, e2⟩
    · rw [e1, e2, if_neg one_ne, if_neg one_ne]
      match k, hk with
      | 0, _ =>
        refine ⟨_, _, sa τ 0 (upd (ga τ 0) 168 a2), rfl, ?_, c, ⟨n1, n2, ?_, ?_, hs, ?_, n7, ?_, n9, ?_⟩, h2.upd h24 (k := 168) (by omega) a2, h3, h4, h5, h6, h7, h8, Or.inl ⟨rfl, rfl, rfl⟩⟩
        · rw [ld_n (i := 168 + nI 0) 168 rfl (by omega) (by omega), ck_n (i := 168 + nI 0) 168 rfl (by omega) (by omega), lt_e, ← n4]; rfl
        · show upd (ga τ 0) 168 a2 172 = _
          rw [ud_s, if_neg (by decide)]; exact n3
        · show a2 = upd (ga τ 0) 168 a2 168
          rw [ud_s, if_pos rfl]
        · show gi σ 2 = upd (ga τ 0) 168 a2 169
          rw [ud_s, if_neg (by decide)]; exact n6
        · show gi σ 3 = upd (ga τ 0) 168 a2 170
          rw [ud_s, if_neg (by decide)]; exact n8
        · show gi σ 4 = upd (ga τ 0) 168 a2 171
          rw [ud_s, if_neg (by decide)]; exact n10
      | 1, _ =>
        refine ⟨_, _, sa τ 0 (upd (ga τ 0) 169 a2), rfl, ?_, c, ⟨n1, n2, ?_, ?_, n5, ?_, hs, ?_, n9, ?_⟩, h2.upd h24 (k := 169) (by omega) a2, h3, h4, h5, h6, h7, h8, Or.inl ⟨rfl, rfl, rfl⟩⟩
        · rw [ld_n (i := 168 + nI 1) 169 rfl (by omega) (by omega), ck_n (i := 168 + nI 1) 169 rfl (by omega) (by omega), lt_e, ← n6]; rfl
        · show upd (ga τ 0) 169 a2 172 = _
          rw [ud_s, if_neg (by decide)]; exact n3
        · show gi σ 1 = upd (ga τ 0) 169 a2 168
          rw [ud_s, if_neg (by decide)]; exact n4
        · show a2 = upd (ga τ 0) 169 a2 169
          rw [ud_s, if_pos rfl]
        · show gi σ 3 = upd (ga τ 0) 169 a2 170
          rw [ud_s, if_neg (by decide)]; exact n8
        · show gi σ 4 = upd (ga τ 0) 169 a2 171
          rw [ud_s, if_neg (by decide)]; exact n10
      | 2, _ =>
        refine ⟨_, _, sa τ 0 (upd (ga τ 0) 170 a2), rfl, ?_, c, ⟨n1, n2, ?_, ?_, n5, ?_, n7, ?_, hs, ?_⟩, h2.upd h24 (k := 170) (by omega) a2, h3, h4, h5, h6, h7, h8, Or.inl ⟨rfl, rfl, rfl⟩⟩
        · rw [ld_n (i := 168 + nI 2) 170 rfl (by omega) (by omega), ck_n (i := 168 + nI 2) 170 rfl (by omega) (by omega), lt_e, ← n8]; rfl
        · show upd (ga τ 0) 170 a2 172 = _
          rw [ud_s, if_neg (by decide)]; exact n3
        · show gi σ 1 = upd (ga τ 0) 170 a2 168
          rw [ud_s, if_neg (by decide)]; exact n4
        · show gi σ 2 = upd (ga τ 0) 170 a2 169
          rw [ud_s, if_neg (by decide)]; exact n6
        · show a2 = upd (ga τ 0) 170 a2 170
          rw [ud_s, if_pos rfl]
        · show gi σ 4 = upd (ga τ 0) 170 a2 171
          rw [ud_s, if_neg (by decide)]; exact n10
    · rw [e1, e2, if_pos rfl, if_pos rfl, RC5, RM5]
      exact ⟨_, _, _, rfl, rfl, c, RelC.ref ⟨⟨n1, n2, n3, n4, n5, n6, n7, n8, n9, n10⟩, h2, h3, h4, h5, h6, h7, h8, h9⟩ 5⟩
  · have hr := RelC.ref ⟨⟨n1, n2, n3, n4, n5, n6, n7, n8, n9, n10⟩, h2, h3, h4, h5, h6, h7, h8, h9⟩ 4
    rw [p3, if_pos rfl, RM4]
    rcases p with p | ⟨p, p'⟩
    · rw [if_pos p, RC4]; exact ⟨_, _, _, rfl, rfl, c, hr⟩
    · rw [if_neg p, if_neg p', RC4]; exact ⟨_, _, _, rfl, rfl, c, hr⟩
