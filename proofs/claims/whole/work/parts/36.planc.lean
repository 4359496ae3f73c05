/-! the class's relaxed plan -/
def oI (o : Option Nat) : Int32 := match o with | none => -1 | some a => nI a
def csum (co : Nat → Nat) (ch : Int32) : Nat → Nat
  | 0 => 0
  | n + 1 => csum co ch n + (if bt ch n = true then co n else 0)
theorem csum_out {co : Nat → Nat} {ch : Int32} {a : Nat} : ∀ {n}, n ≤ a → a < 32 → csum co (ch ||| pw a) n = csum co ch n
  | 0, _, _ => rfl
  | n + 1, h, ha => by
    show csum co (ch ||| pw a) n + _ = csum co ch n + _
    rw [csum_out (by omega) ha, b_or, b_pw ha (by omega), decide_eq_false (by omega), Bool.or_false]
theorem csum_in {co : Nat → Nat} {ch : Int32} {a : Nat} (hb : bt ch a = false) : ∀ {n}, a < n → n ≤ 32 → csum co (ch ||| pw a) n = csum co ch n + co a
  | n + 1, h, hn => by
    show csum co (ch ||| pw a) n + _ = csum co ch n + _ + co a
    by_cases e : a = n
    · subst e
      rw [csum_out (Nat.le_refl _) (by omega), b_or, b_pw (by omega) (by omega), hb, decide_eq_true rfl, Bool.or_true, if_pos rfl, if_neg (by decide)]
      omega
    · rw [csum_in hb (by omega) (by omega), b_or, b_pw (by omega) (by omega), decide_eq_false (by omega), Bool.or_false]
      omega
theorem or_in {ch : Int32} {a : Nat} (h : bt ch a = true) (ha : a < 32) : ch ||| pw a = ch := by
  refine b_ext fun i hi => ?_
  rw [b_or, b_pw ha hi]
  by_cases e : i = a
  · rw [e, h]; rfl
  · rw [decide_eq_false e, Bool.or_false]
/-- what making a plan may change -/
def PlanS (σ s : SC) : Prop := (∀ k, k < 7 ∨ 13 < k → gi s k = gi σ k) ∧ (∀ a, a ≠ 8 → a ≠ 9 → ga s a = ga σ a) ∧ ∀ j, gl s j = gl σ j
theorem PlanS.same {σ s : SC} (h : PlanS σ s) : SameC σ s :=
  ⟨fun k hk => h.1 k (by simp only [List.mem_cons, List.not_mem_nil, or_false] at hk; omega), fun a ha => h.2.1 a (fun e => by subst e; exact absurd ha (by decide)) (fun e => by subst e; exact absurd ha (by decide)), h.2.2⟩
/-- the state while a plan is made: levels and costs stand -/
def PlanI (σ : SC) (c : Nat) (x : Int32) (L : Nat) (W : Nat → Nat) (s : SC) : Prop := PlanS σ s ∧ gi s 7 = nI L ∧ (∀ k, k ≤ L → ga s 8 k = lv c (ga σ 0) (ga σ 1) 0 x k) ∧ CV x W s ∧ gi s 9 = b2i true
theorem makerOf_C {σ s : SC} {n c L f l : Nat} {x : Int32} {W co : Nat → Nat} (hn : 100 < n) (h24 : c ≤ 24) (ht : TcC c co σ) (hco : ∀ a, a < c → 1 ≤ co a ∧ co a ≤ CP) (hI : PlanI σ c x L W s) (hL : L ≤ 30) (hst : ∀ k, L ≤ k → lv c (ga σ 0) (ga σ 1) 0 x k = lv c (ga σ 0) (ga σ 1) 0 x L) (hkn : ∀ g, g < 30 → (W g ≠ FR ↔ bt (lv c (ga σ 0) (ga σ 1) 0 x L) g = true)) (hf : f < 30) (h1 : 1 ≤ l) (hl : l ≤ L) :
    f_X7_makerOf n s (nI f) (nI l) = some (oI (mker (mayP (ga σ 0) (ga σ 1) c x f l) (fun a => vA true co (ga σ 0) a W) c)) := by
  have hcf := CPFR
  have hF : FR < 2 ^ 30 := by decide
  obtain ⟨i1, i2, i3, i4, i5⟩ := hI
  have s0 := i1.2.1 0 (by decide) (by decide)
  have s1 := i1.2.1 1 (by decide) (by decide)
  have s3 := i1.2.1 3 (by decide) (by decide)
  have s6 := i1.1 6 (by decide)
  obtain ⟨k, rfl⟩ : ∃ k, l = k + 1 := ⟨l - 1, by omega⟩
  unfold f_X7_makerOf
  rw [nI_pred, at_C hL i2 i3 hst (by omega), bd_e]
  have := loop_rel (L := fun g i (y : Int32 × Int32) => LX7_makerOf_20 n s (nI f) (lv c (ga σ 0) (ga σ 1) 0 x k) (fun w13 => some w13) g y.1 y.2 (nI i)) (K := fun y => some y.1) (g := bg (mayP (ga σ 0) (ga σ 1) c x f (k + 1)) (fun a => vA true co (ga σ 0) a W)) (c := c) (n := n) (x := (-1, 0)) (y := none) (fun _ y o => y.1 = oI o ∧ ∀ b, o = some b → b < c ∧ y.2 = nI (vA true co (ga σ 0) b W)) (by omega) ⟨rfl, fun b h => by cases h⟩ (by
    rintro g ⟨y4, y5⟩ o _
    show (if gi s 6 ≤ nI c then _ else _) = _
    rw [s6, ht.1, if_pos (nI_le (Nat.le_refl c) (by omega))]) (by
    rintro g i ⟨y4, y5⟩ o hi ⟨j1, j2⟩
    have j1 : y4 = oI o := j1
    have j2 : ∀ b, o = some b → b < c ∧ y5 = nI (vA true co (ga σ 0) b W) := j2
    right
    show ∃ x', (if gi s 6 ≤ nI i then _ else _) = _ ∧ _
    rw [s6, ht.1, if_neg (nI_ge hi (by omega)), ldA (by omega), s1, nI_p1]
    unfold bg mayP
    by_cases q : bt (ga σ 1 i) f = true
    · rw [if_neg (and_sh1 (by omega) q), allowed_C (by omega), bd_e, s0, q, Bool.true_and]
      by_cases q2 : sub (ga σ 0 i) (lv c (ga σ 0) (ga σ 1) 0 x k)
      · rw [if_pos q2, if_neg one_ne, decide_eq_true (show sub (ga σ 0 i) (lv c (ga σ 0) (ga σ 1) 0 x (k + 1 - 1)) from q2), if_pos rfl]
        have hne : ∀ g, g < 30 → bt (ga s 0 i) g = true → W g ≠ FR := by
          intro g hg hb
          rw [s0] at hb
          rw [sub_iff] at q2
          obtain ⟨d, rfl⟩ : ∃ d, L = k + d := ⟨L - k, by omega⟩
          exact (hkn g hg).mpr (up_some k d g (q2 g (by omega) hb))
        have e := costBy_C (sm := true) (co := co) hn (show i < 24 by omega) i4 i5 (hco i hi) (by rw [s3]; exact (ht.2 i hi).2) hne
        rw [s0] at e
        rw [e, bd_e]
        have hA := vA_le (sm := true) (nd := ga σ 0) hco i4.2.2.2.2 hi
        rcases o with _ | b
        · rw [j1, if_pos (show oI none = -1 from rfl)]
          exact ⟨(nI i, nI (vA true co (ga σ 0) i W)), rfl, rfl, fun b h => by cases h; exact ⟨hi, rfl⟩⟩
        · obtain ⟨hb, hy⟩ := j2 b rfl
          have hB := vA_le (sm := true) (nd := ga σ 0) hco i4.2.2.2.2 hb
          rw [j1, hy, if_neg (show ¬ oI (some b) = -1 from nI_nm1 (by omega))]
          by_cases q3 : vA true co (ga σ 0) b W ≤ vA true co (ga σ 0) i W
          · rw [if_pos (nI_le q3 (by omega))]
            refine ⟨(nI b, nI (vA true co (ga σ 0) b W)), rfl, ?_, fun b' h => ?_⟩
            · show nI b = oI (if _ then _ else _)
              rw [if_pos q3]; rfl
            · have h : (if vA true co (ga σ 0) b W ≤ vA true co (ga σ 0) i W then some b else some i) = some b' := h
              rw [if_pos q3] at h
              cases h; exact ⟨hb, rfl⟩
          · rw [if_neg (nI_ge (by omega) (by omega))]
            refine ⟨(nI i, nI (vA true co (ga σ 0) i W)), rfl, ?_, fun b' h => ?_⟩
            · show nI i = oI (if _ then _ else _)
              rw [if_neg q3]; rfl
            · have h : (if vA true co (ga σ 0) b W ≤ vA true co (ga σ 0) i W then some b else some i) = some b' := h
              rw [if_neg q3] at h
              cases h; exact ⟨hi, rfl⟩
      · rw [if_neg q2, if_pos rfl, decide_eq_false (show ¬ sub (ga σ 0 i) (lv c (ga σ 0) (ga σ 1) 0 x (k + 1 - 1)) from q2), if_neg (by decide)]
        exact ⟨(y4, y5), rfl, j1, j2⟩
    · rw [if_pos (and_sh0 (by omega) q), show bt (ga σ 1 i) f = false by simpa using q, Bool.false_and, if_neg (by decide)]
      exact ⟨(y4, y5), rfl, j1, j2⟩)
  obtain ⟨⟨y4, y5⟩, h1, h2, _⟩ := this
  have h2 : y4 = _ := h2
  subst h2
  exact h1
theorem include_C {s : SC} {a c : Nat} {co : Nat → Nat} (hc : gi s 6 = nI c) (h24 : c ≤ 24) (ha : a < c) (hcs : ga s 3 a = nI (co a)) (x : Int32) (hk : gi s 12 = nI (csum co (gi s 11) c)) :
    ∃ s', f_X7_include s (nI a) x = some s' ∧ gi s' 11 = gi s 11 ||| pw a ∧ gi s' 12 = nI (csum co (gi s' 11) c) ∧ gi s' 13 = gi s 13 ||| (ga s 0 a &&& (x ^^^ (-1))) ∧ (∀ k, k ≠ 11 → k ≠ 12 → k ≠ 13 → gi s' k = gi s k) ∧ (∀ q, ga s' q = ga s q) ∧ ∀ j, gl s' j = gl s j := by
  unfold f_X7_include
  rw [has_1 hc h24 ⟨a, ha, rfl⟩, if_neg one_ne]
  simp only [jn_e, lt_e, ldA (show a < 24 by omega)]
  by_cases q : bt (gi s 11) a = true
  · rw [if_neg (and_sh1 (by omega) q)]
    refine ⟨_, rfl, ?_, hk, rfl, fun k h1 h2 h3 => ?_, fun _ => rfl, fun _ => rfl⟩
    · rw [or_in q (by omega)]; rfl
    · rw [gi_si, if_neg h3]
  · rw [if_pos (and_sh0 (by omega) q)]
    refine ⟨_, rfl, rfl, ?_, rfl, fun k h1 h2 h3 => ?_, fun _ => rfl, fun _ => rfl⟩
    · show gi s 12 + ga s 3 a = nI (csum co (gi s 11 ||| pw a) c)
      rw [csum_in (by simpa using q) ha (by omega), hk, hcs, nI_add]
    · rw [gi_si, if_neg h3, gi_si, if_neg h2, gi_si, if_neg h1]
