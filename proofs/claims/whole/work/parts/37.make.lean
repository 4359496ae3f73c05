/-! the class's relaxed plan: the loops -/
def DL (nd mk : Nat → Int32) (c : Nat) (x : Int32) (l i g : Nat) : Prop := ∃ m, isL nd mk c x g m ∧ (l < m ∨ (m = l ∧ g < i))
def uT (σ : SC) (co : Nat → Nat) (W : Nat → Nat) (a : Nat) : Nat := vA true co (ga σ 0) a W
def PR (σ : SC) (c : Nat) (co : Nat → Nat) (x goal : Int32) (L : Nat) (W : Nat → Nat) (D : Nat → Prop) (s : SC) : Prop :=
  PlanI σ c x L W s ∧ gi s 10 = 1 ∧ RI (ga σ 0) (ga σ 1) c x goal (uT σ co W) L D (gi s 13) (gi s 11) ∧ gi s 12 = nI (csum co (gi s 11) c)
theorem make_in {σ s : SC} {n c L l : Nat} {x goal q : Int32} {W co : Nat → Nat} (hn : 100 < n) (h24 : c ≤ 24) (ht : TcC c co σ) (hco : ∀ a, a < c → 1 ≤ co a ∧ co a ≤ CP) (hL : L ≤ 30) (hst : ∀ k, L ≤ k → lv c (ga σ 0) (ga σ 1) 0 x k = lv c (ga σ 0) (ga σ 1) 0 x L) (hkn : ∀ g, g < 30 → (W g ≠ FR ↔ bt (lv c (ga σ 0) (ga σ 1) 0 x L) g = true)) (h1 : 1 ≤ l) (hl : l ≤ L) (K : SC → Option SC)
    (hR : PR σ c co x goal L W (DL (ga σ 0) (ga σ 1) c x l 0) s) (hq : ∀ g, g < 30 → (bt q g = true ↔ bt (gi s 13) g = true ∧ isL (ga σ 0) (ga σ 1) c x g l)) :
    ∃ s', LX7_make_101 n x (nI l) q K n s 0 = K s' ∧ PR σ c co x goal L W (DL (ga σ 0) (ga σ 1) c x l 30) s' := by
  have := loop_rel (L := fun g i (y : SC) => LX7_make_101 n x (nI l) q K g y (nI i)) (K := K) (g := fun _ (z : Unit) => z) (c := 30) (n := n) (x := s) (y := ()) (fun i y _ => PR σ c co x goal L W (DL (ga σ 0) (ga σ 1) c x l i) y ∧ ∀ g, g < 30 → (bt q g = true ↔ bt (gi y 13) g = true ∧ isL (ga σ 0) (ga σ 1) c x g l)) (by omega) ⟨hR, hq⟩ (fun f y z _ => if_pos (nI_le (Nat.le_refl 30) (by omega))) (by
    rintro f i t _ hi ⟨⟨p1, p2, p3, p4⟩, hq⟩
    have w30 := p3.1
    show ((if (30 : Int32) ≤ nI i then _ else _) = _ ∧ _) ∨ ∃ x', (if (30 : Int32) ≤ nI i then _ else _) = _ ∧ _
    rw [if_neg (show ¬ (30 : Int32) ≤ nI i from nI_ge (b := 30) hi (by omega))]
    by_cases q0 : (q.toUInt32 >>> ((nI i).toUInt32 &&& Int32.toUInt32 31)).toInt32 = 0
    · left
      rw [if_pos q0]
      refine ⟨rfl, ⟨p1, p2, p3.cong (fun g hg => ⟨fun ⟨m, m1, m2⟩ => ⟨m, m1, ?_⟩, fun ⟨m, m1, m2⟩ => ⟨m, m1, ?_⟩⟩), p4⟩, hq⟩
      · rcases m2 with m2 | ⟨m2, m3⟩
        · exact Or.inl m2
        · subst m2
          have hg30 := s30_bit w30 hg
          have := (hq g hg30).mpr ⟨hg, m1⟩
          rcases Nat.lt_or_ge g i with h | h
          · exact Or.inr ⟨rfl, h⟩
          · rw [ushr_0 (by omega) q0 g h] at this; cases this
      · rcases m2 with m2 | ⟨m2, m3⟩
        · exact Or.inl m2
        · exact Or.inr ⟨m2, by omega⟩
    · right
      rw [if_neg q0]
      by_cases qi : bt q i = true
      · rw [if_neg (and_sh1 (by omega) qi)]
        obtain ⟨hwi, hli⟩ := (hq i hi).mp qi
        obtain ⟨a, ha, hm, hM, hs⟩ := MK_ex (u := uT σ co W) (by omega) h1 hli
        have e := makerOf_C (co := co) hn h24 ht hco p1 hL hst hkn hi h1 hl
        have hm' : mker (mayP (ga σ 0) (ga σ 1) c x i l) (fun a => vA true co (ga σ 0) a W) c = some a := hm
        rw [e, hm', bd_e]
        show ∃ x', bd (f_X7_include t (nI a) x) _ = _ ∧ _
        have t0 := p1.1.2.1 0 (by decide) (by decide)
        have t3 := p1.1.2.1 3 (by decide) (by decide)
        have t6 := p1.1.1 6 (by decide)
        obtain ⟨s', w1, w2, w3, w4, w5, w6, w7⟩ := include_C (co := co) (by rw [t6, ht.1]) h24 ha (by rw [t3]; exact (ht.2 a ha).2) x p4
        rw [w1, bd_e, lt_e, nI_p1]
        have lowg : ∀ g, bt (ga σ 0 a) g = true → ∀ m, isL (ga σ 0) (ga σ 1) c x g m → m < l := by
          intro g hg m hm
          have hg32 : g < 32 := by
            rcases Nat.lt_or_ge g 32 with h | h
            · exact h
            · rw [b_big h] at hg; cases hg
          rw [sub_iff] at hs
          obtain ⟨m', h2, h3⟩ := isL_ex (hs g hg32 hg)
          rw [isL_uniq hm h3]; omega
        have ri := p3.step (D' := DL (ga σ 0) (ga σ 1) c x l (i + 1)) (fun a ha => (ht.2 a ha).1) h24 hwi hM ha (show l - 1 ≤ L by omega) hs (fun g hg => ⟨fun ⟨m, m1, m2⟩ => (by
            rcases m2 with m2 | ⟨m2, m3⟩
            · exact Or.inl ⟨m, m1, Or.inl m2⟩
            · by_cases e : g = i
              · exact Or.inr e
              · exact Or.inl ⟨m, m1, Or.inr ⟨m2, by omega⟩⟩), fun hh => (by
            rcases hh with ⟨m, m1, m2⟩ | e
            · refine ⟨m, m1, ?_⟩
              rcases m2 with m2 | ⟨m2, m3⟩
              · exact Or.inl m2
              · exact Or.inr ⟨m2, by omega⟩
            · subst e; exact ⟨l, hli, Or.inr ⟨rfl, by omega⟩⟩)⟩) (fun g hg _ => Or.inr (fun ⟨m, m1, m2⟩ => (by
            have := lowg g hg m m1
            rcases m2 with m2 | ⟨m2, _⟩ <;> omega)))
        refine ⟨s', rfl, ⟨⟨⟨fun k hk => ?_, fun q h8 h9 => ?_, fun j => ?_⟩, ?_, ?_, ?_, ?_⟩, ?_, ?_, w3⟩, fun g hg => ?_⟩
        · rw [w5 k (by omega) (by omega) (by omega), p1.1.1 k hk]
        · rw [w6, p1.1.2.1 q h8 h9]
        · rw [w7, p1.1.2.2 j]
        · rw [w5 7 (by decide) (by decide) (by decide), p1.2.1]
        · rw [w6]; exact p1.2.2.1
        · obtain ⟨v1, v2, v3, v4, v5⟩ := p1.2.2.2.1
          unfold CV
          rw [w5 8 (by decide) (by decide) (by decide), w6]
          exact ⟨v1, v2, v3, v4, v5⟩
        · rw [w5 9 (by decide) (by decide) (by decide), p1.2.2.2.2]
        · rw [w5 10 (by decide) (by decide) (by decide), p2]
        · rw [w2, w4, t0]; exact ri
        · rw [w4, t0, hq g hg, b_or, Bool.or_eq_true]
          constructor
          · rintro ⟨g1, g2⟩; exact ⟨Or.inl g1, g2⟩
          · rintro ⟨g1 | g1, g2⟩
            · exact ⟨g1, g2⟩
            · rw [b_and, Bool.and_eq_true] at g1
              have := lowg g g1.1 l g2
              omega
      · rw [if_pos (and_sh0 (by omega) qi), lt_e, nI_p1]
        refine ⟨t, rfl, ⟨p1, p2, p3.cong (fun g hg => ⟨fun ⟨m, m1, m2⟩ => ⟨m, m1, ?_⟩, fun ⟨m, m1, m2⟩ => ⟨m, m1, ?_⟩⟩), p4⟩, hq⟩
        · rcases m2 with m2 | ⟨m2, m3⟩
          · exact Or.inl m2
          · subst m2
            have hg30 := s30_bit w30 hg
            by_cases e : g = i
            · subst e; exact absurd ((hq g hi).mpr ⟨hg, m1⟩) qi
            · exact Or.inr ⟨rfl, by omega⟩
        · rcases m2 with m2 | ⟨m2, m3⟩
          · exact Or.inl m2
          · exact Or.inr ⟨m2, by omega⟩)
  obtain ⟨s', e1, e2, _⟩ := this
  exact ⟨s', e1, e2⟩
theorem make_out {σ : SC} {n c L : Nat} {x goal : Int32} {W co : Nat → Nat} (hn : 100 < n) (h24 : c ≤ 24) (ht : TcC c co σ) (hco : ∀ a, a < c → 1 ≤ co a ∧ co a ≤ CP) (hL : L ≤ 30) (hst : ∀ k, L ≤ k → lv c (ga σ 0) (ga σ 1) 0 x k = lv c (ga σ 0) (ga σ 1) 0 x L) (hkn : ∀ g, g < 30 → (W g ≠ FR ↔ bt (lv c (ga σ 0) (ga σ 1) 0 x L) g = true)) :
    ∀ (l f : Nat) (s : SC), l ≤ L → l < f → PR σ c co x goal L W (DL (ga σ 0) (ga σ 1) c x l 0) s → ∃ s', LX7_make_79 n x (fun σ27 => some σ27) f s (nI l) = some s' ∧ PR σ c co x goal L W (DL (ga σ 0) (ga σ 1) c x 0 0) s' := by
  intro l
  induction l with
  | zero =>
    intro f s hl hf hR
    obtain ⟨f, rfl⟩ : ∃ f', f = f' + 1 := ⟨f - 1, by omega⟩
    exact ⟨s, if_pos (show nI 0 ≤ 0 by decide), hR⟩
  | succ l ih =>
    intro f s hl hf hR
    obtain ⟨f, rfl⟩ : ∃ f', f = f' + 1 := ⟨f - 1, by omega⟩
    obtain ⟨i1, i2, i3, i4, i5⟩ := hR.1
    have n0 : ¬ nI (l + 1) ≤ 0 := nI_ge (a := 0) (by omega) (by omega)
    rw [LX7_make_79, if_neg n0]
    unfold f_X3_newAt
    rw [if_neg n0, at_C hL i2 i3 hst (by omega), bd_e, nI_pred, at_C hL i2 i3 hst (by omega), bd_e, bd_e, lt_e]
    have hq : ∀ g, g < 30 → (bt (gi s 13 &&& (lv c (ga σ 0) (ga σ 1) 0 x (l + 1) &&& (lv c (ga σ 0) (ga σ 1) 0 x l ^^^ (-1)))) g = true ↔ bt (gi s 13) g = true ∧ isL (ga σ 0) (ga σ 1) c x g (l + 1)) := by
      intro g hg
      rw [b_and, b_and, b_not _ (by omega), Bool.and_eq_true, Bool.and_eq_true]
      refine and_congr_right (fun _ => ⟨fun ⟨h1, h2⟩ => ⟨h1, fun j hj => ?_⟩, fun ⟨h1, h2⟩ => ⟨h1, by rw [h2 l (by omega)]; rfl⟩⟩)
      cases hb : bt (lv c (ga σ 0) (ga σ 1) 0 x j) g with
      | false => rfl
      | true =>
        obtain ⟨d, rfl⟩ : ∃ d, l = j + d := ⟨l - j, by omega⟩
        rw [up_some j d g hb] at h2; cases h2
    obtain ⟨s', e1, e2⟩ := make_in (co := co) hn h24 ht hco hL hst hkn (l := l + 1) (by omega) hl (fun σ25 => lt (nI (l + 1) + (-1)) (fun v26 => LX7_make_79 n x (fun σ27 => some σ27) f σ25 v26)) hR hq
    rw [e1, lt_e, pk_m1]
    refine ih f s' (by omega) (by omega) ⟨e2.1, e2.2.1, e2.2.2.1.cong (fun g hg => ⟨fun ⟨m, m1, m2⟩ => ⟨m, m1, ?_⟩, fun ⟨m, m1, m2⟩ => ⟨m, m1, ?_⟩⟩), e2.2.2.2⟩
    · have := s30_bit e2.2.2.1.1 hg
      omega
    · omega
/-- the class makes a relaxed plan -/
theorem make_C {σ : SC} {n c : Nat} {x goal : Int32} {co : Nat → Nat} (hn : 2000 < n) (h24 : c ≤ 24) (ht : TcC c co σ) (hco : ∀ a, a < c → 1 ≤ co a ∧ co a ≤ CP) (hm : ∀ a, a < c → s30 (ga σ 1 a)) (hx : s30 x) (hgo : s30 goal)
    {T : Nat} (hT : T ≤ 30) (hfix : RV true co (ga σ 0) (ga σ 1) c (VK true co (ga σ 0) (ga σ 1) c (v0 x) T) = VK true co (ga σ 0) (ga σ 1) c (v0 x) T) (hmin : ∀ k, k < T → RV true co (ga σ 0) (ga σ 1) c (VK true co (ga σ 0) (ga σ 1) c (v0 x) k) ≠ VK true co (ga σ 0) (ga σ 1) c (v0 x) k) :
    ∃ s L, f_X7_make n σ x goal = some s ∧ PlanS σ s ∧ L ≤ 30 ∧ (∀ k, L ≤ k → lv c (ga σ 0) (ga σ 1) 0 x k = lv c (ga σ 0) (ga σ 1) 0 x L) ∧ gi s 7 = nI L ∧ (∀ k, k ≤ L → ga s 8 k = lv c (ga σ 0) (ga σ 1) 0 x k) ∧
      ((¬ sub goal (lv c (ga σ 0) (ga σ 1) 0 x L) ∧ gi s 10 = 0 ∧ gi s 11 = 0) ∨ (sub goal (lv c (ga σ 0) (ga σ 1) 0 x L) ∧ PR σ c co x goal L (VK true co (ga σ 0) (ga σ 1) c (v0 x) T) (fun _ => True) s)) := by
  unfold f_X7_make
  simp only [lt_e, jn_e]
  obtain ⟨s, L, g1, g2, g3, g4, g5, g6⟩ := spread_C (σ := si (si (si σ 11 0) 12 0) 13 0) (n := n) h24 ht.1 (by omega) hm 0 hx
  rw [g1, bd_e]
  obtain ⟨r, r1, r2⟩ := first_C (n := n) (by omega) g4 g3 g5 g6 goal
  rw [r1, bd_e]
  have hS : PlanS σ s := by
    refine ⟨fun k hk => ?_, fun a h8 h9 => ?_, fun j => g2.2.2 j⟩
    · rw [g2.1 k (by omega), gi_si, if_neg (by omega), gi_si, if_neg (by omega), gi_si, if_neg (by omega)]
    · rw [g2.2.1 a h8]; rfl
  rcases r2.last g6 (fun k => lv_subs k) with ⟨q1, q2⟩ | ⟨q1, q2⟩
  · rw [if_pos q1, zb_0]
    refine ⟨si s 10 0, L, rfl, ⟨fun k hk => ?_, hS.2.1, hS.2.2⟩, g4, g6, g3, g5, Or.inl ⟨q2, rfl, ?_⟩⟩
    · rw [gi_si, if_neg (by omega), hS.1 k hk]
    · show gi s 11 = 0
      rw [g2.1 11 (by decide)]; rfl
  · rw [if_neg q1, zb_1]
    rw [if_neg (show ¬ gi (si s 10 1) 10 = 0 from one_ne)]
    have k6 : gi (si s 10 1) 6 = gi σ 6 := hS.1 6 (by decide)
    have a0 : ga (si s 10 1) 0 = ga σ 0 := hS.2.1 0 (by decide) (by decide)
    have a1 : ga (si s 10 1) 1 = ga σ 1 := hS.2.1 1 (by decide) (by decide)
    have a3 : ga (si s 10 1) 3 = ga σ 3 := hS.2.1 3 (by decide) (by decide)
    obtain ⟨t, t1, t2, t3, t4⟩ := settle_C (σ := si s 10 1) (c := c) (co := co) hn h24 ⟨by rw [k6]; exact ht.1, fun a ha => by rw [a0, a3]; exact ht.2 a ha⟩ hco true hx hT (by rw [a0, a1]; exact hfix) (by rw [a0, a1]; exact hmin)
    rw [a0, a1] at t3
    rw [show f_X1_settle n (si s 10 1) x 1 = some t from t1, bd_e]
    have hkn := known_reach (sm := true) (nd := ga σ 0) (mk := ga σ 1) hco (fun a ha => (ht.2 a ha).1) hfix g6
    have tL : gi t 7 = nI L := by rw [t2.1 7 (by decide) (by decide)]; exact g3
    have t8 : ga t 8 = ga s 8 := t2.2.1 8 (by decide)
    have hI : PlanI σ c x L (VK true co (ga σ 0) (ga σ 1) c (v0 x) T) (si t 13 (goal &&& (x ^^^ (-1)))) := by
      refine ⟨⟨fun k hk => ?_, fun a h8 h9 => ?_, fun j => ?_⟩, tL, fun k hk => ?_, ?_, t4⟩
      · rw [gi_si, if_neg (by omega), t2.1 k (by omega) (by omega), gi_si, if_neg (by omega), hS.1 k hk]
      · rw [ga_si, t2.2.1 a h9, ga_si, hS.2.1 a h8 h9]
      · rw [gl_si, t2.2.2, gl_si, hS.2.2]
      · rw [ga_si, t8]; exact g5 k hk
      · exact t3
    have h11 : gi t 11 = 0 := by
      rw [t2.1 11 (by decide) (by decide)]
      show gi s 11 = 0
      rw [g2.1 11 (by decide)]; rfl
    have h12 : gi t 12 = 0 := by
      rw [t2.1 12 (by decide) (by decide)]
      show gi s 12 = 0
      rw [g2.1 12 (by decide)]; rfl
    have h10 : gi t 10 = 1 := by rw [t2.1 10 (by decide) (by decide)]; rfl
    have cs0 : ∀ k, csum co 0 k = 0 := by
      intro k
      induction k with
      | zero => rfl
      | succ k ih => show csum co 0 k + _ = 0; rw [ih, b_0, if_neg (by decide)]
    have hP : PR σ c co x goal L (VK true co (ga σ 0) (ga σ 1) c (v0 x) T) (DL (ga σ 0) (ga σ 1) c x L 0) (si t 13 (goal &&& (x ^^^ (-1)))) := by
      refine ⟨hI, h10, ?_, ?_⟩
      · show RI _ _ _ _ _ _ _ _ (goal &&& (x ^^^ (-1))) (gi t 11)
        rw [h11]
        refine (RI.start hgo q2).cong (fun g hg => ⟨fun ⟨m, m1, m2⟩ => ?_, fun h => h.elim⟩)
        have := (RI.start (u := uT σ co (VK true co (ga σ 0) (ga σ 1) c (v0 x) T)) hgo q2).2.1 g hg
        obtain ⟨m', h2, h3⟩ := isL_ex this.1
        have := isL_uniq m1 h3
        omega
      · show gi t 12 = nI (csum co (gi t 11) c)
        rw [h11, h12, cs0]; rfl
    have e15 : f_X3_lastLevel (si t 13 (goal &&& (x ^^^ (-1)))) = nI L := tL
    rw [e15]
    obtain ⟨s', e1, e2⟩ := make_out (co := co) (show 100 < n by omega) h24 ht hco g4 g6 hkn L n _ (Nat.le_refl L) (by omega) hP
    refine ⟨s', L, e1, e2.1.1, g4, g6, e2.1.2.1, e2.1.2.2.1, Or.inr ⟨q2, e2.1, e2.2.1, e2.2.2.1.cong (fun g hg => ⟨fun _ => ?_, fun _ => trivial⟩), e2.2.2.2⟩⟩
    have hh := e2.2.2.1.2.1 g hg
    obtain ⟨m', h2, h3⟩ := isL_ex hh.1
    exact ⟨m', h3, Or.inl (isL_0 h3 hh.2)⟩
