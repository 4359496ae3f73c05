/-! the reference's makers and its relaxed plan -/
theorem by_M {τ : SC} {n c f l : Nat} {nd mk : Nat → Int32} {co : Nat → Nat} {W : Nat → Nat} {x : Int32} (hn : 100 < n) (h24 : c ≤ 24) (ht : TbM c nd mk τ) (hc : TcM c co τ) (hco : ∀ a, a < c → 1 ≤ co a ∧ co a ≤ CP) (hv : MV W τ) (hok : Vok W) (h6 : ∀ f, f < 30 → ga τ 6 f = FI (lF nd mk c x f) 31) (h7 : ∀ a, a < c → ga τ 7 a = FI (lA nd mk c x a) 31) (hf : f < 30) (h1 : 1 ≤ l) (hl : l ≤ 30) (hL : isL nd mk c x f l) :
    f_X12_by n τ (nI f) = some (oI (mker (mayP nd mk c x f l) (fun a => vA true co nd a W) c)) := by
  have hcf := CPFR
  have hF : FR < 2 ^ 30 := by decide
  have e6 : ga τ 6 f = nI l := by
    rw [h6 f hf]
    rcases FI_p (lF nd mk c x f) 31 (by omega) with ⟨_, q⟩ | ⟨j, q1, q2, q3, q4⟩
    · have := q l (by omega)
      rw [show lF nd mk c x f l = true from hL.1] at this; cases this
    · rw [q2]
      have : j = l := isL_uniq (nd := nd) (mk := mk) (c := c) (x := x) (f := f) ⟨q3, q4⟩ hL
      rw [this]
  unfold f_X12_by
  have := loop_rel (L := fun g i (y : Int32) => LX12_by_4 n τ (nI f) (fun w17 => some w17) g y (nI i)) (K := fun y => some y) (g := bg (mayP nd mk c x f l) (fun a => vA true co nd a W)) (c := c) (n := n) (x := -1) (y := none) (fun _ y o => y = oI o ∧ ∀ b, o = some b → b < c) (by omega) ⟨rfl, fun b h => by cases h⟩ (by
    rintro g y o _
    show ld _ _ _ _ = _
    rw [ld172, ht.1, if_pos (nI_le (Nat.le_refl c) (by omega))]) (by
    rintro g i y o hi ⟨rfl, j2⟩
    right
    show ∃ x', ld _ _ _ _ = _ ∧ _
    rw [ld172, ht.1, if_neg (nI_ge hi (by omega)), ld24 (by omega), (ht.2 i hi).2]
    simp only [jn_e, ldA (show i < 24 by omega), ld_n (i := nI f) f rfl hf (by omega), h7 i hi, e6, nI_p1, lt_e, if_true, if_neg one_ne]
    have vb : ∀ b, b < c → f_X12_valueBy n τ (nI b) 1 = some (nI (vA true co nd b W)) := fun b hb => valueBy_M hn h24 ht hc hco hv hok true hb
    unfold bg mayP
    by_cases q : bt (mk i) f = true
    · rw [if_pos ((shr_bit (by omega)).mpr q), q, Bool.true_and]
      rcases FI_p (lA nd mk c x i) 31 (by omega) with ⟨p1, p2⟩ | ⟨j, p1, p2, p3, p4⟩
      · have hno : ¬ sub (nd i) (lv c nd mk 0 x (l - 1)) := fun h => by
          have := p2 (l - 1) (by omega)
          rw [show lA nd mk c x i (l - 1) = true from decide_eq_true h] at this; cases this
        rw [p1, if_pos rfl, decide_eq_false hno, if_neg (by decide)]
        exact ⟨_, rfl, rfl, j2⟩
      · rw [p2, if_neg (nI_nm1 (by omega))]
        by_cases q2 : sub (nd i) (lv c nd mk 0 x (l - 1))
        · have hjl : j < l := by
            rcases Nat.lt_or_ge (l - 1) j with h | h
            · have := p4 (l - 1) h
              rw [show lA nd mk c x i (l - 1) = true from decide_eq_true q2] at this; cases this
            · omega
          rw [if_neg (nI_ge hjl (by omega)), decide_eq_true q2, if_pos rfl]
          have hA := vA_le (sm := true) (nd := nd) hco hok hi
          rcases o with _ | b
          · rw [if_pos (show oI none = -1 from rfl)]
            exact ⟨nI i, rfl, rfl, fun b h => by cases h; exact hi⟩
          · have hb := j2 b rfl
            have hB := vA_le (sm := true) (nd := nd) hco hok hb
            rw [if_neg (show ¬ oI (some b) = -1 from nI_nm1 (by omega)), vb i hi, bd_e, show f_X12_valueBy n τ (oI (some b)) 1 = _ from vb b hb, bd_e]
            by_cases q3 : vA true co nd b W ≤ vA true co nd i W
            · rw [if_pos (nI_le q3 (by omega))]
              refine ⟨nI b, rfl, ?_, fun b' h => ?_⟩
              · show nI b = oI (if _ then _ else _)
                rw [if_pos q3]; rfl
              · have h : (if vA true co nd b W ≤ vA true co nd i W then some b else some i) = some b' := h
                rw [if_pos q3] at h
                cases h; exact hb
            · rw [if_neg (nI_ge (by omega) (by omega))]
              refine ⟨nI i, rfl, ?_, fun b' h => ?_⟩
              · show nI i = oI (if _ then _ else _)
                rw [if_neg q3]; rfl
              · have h : (if vA true co nd b W ≤ vA true co nd i W then some b else some i) = some b' := h
                rw [if_neg q3] at h
                cases h; exact hi
        · have hjl : l ≤ j := by
            rcases Nat.lt_or_ge j l with h | h
            · exfalso; apply q2
              have p3 : sub (nd i) (lv c nd mk 0 x j) := of_decide_eq_true p3
              rw [sub_iff] at p3 ⊢
              intro g hg hb
              obtain ⟨d, hd⟩ : ∃ d, l - 1 = j + d := ⟨l - 1 - j, by omega⟩
              rw [hd]
              exact up_some j d g (p3 g hg hb)
            · exact h
          rw [if_pos (nI_le hjl (by omega)), decide_eq_false q2, if_neg (by decide)]
          exact ⟨_, rfl, rfl, j2⟩
    · rw [if_neg (fun h => q ((shr_bit (by omega)).mp h)), show bt (mk i) f = false by simpa using q, Bool.false_and, if_neg (by decide)]
      exact ⟨_, rfl, rfl, j2⟩)
  obtain ⟨y, e1, e2, _⟩ := this
  exact e1.trans (congrArg some e2)
/-- some wanted fact that is not done -/
theorem pick_M {τ : SC} {n : Nat} {dn : Int32} (hn : 100 < n) (h30 : s30 (gi τ 7)) (hne : ¬ (gi τ 7 &&& (dn ^^^ (-1))) = 0) (K : Int32 → Option (Int32 × SC)) : ∃ f, f < 30 ∧ bt (gi τ 7) f = true ∧ bt dn f = false ∧ LX12_relaxedFrom_48 τ dn K n (-1) 0 = K (nI f) := by
  have bb : ∀ f, f < 32 → (bt (gi τ 7 &&& (dn ^^^ (-1))) f = true ↔ bt (gi τ 7) f = true ∧ bt dn f = false) := by
    intro f hf
    rw [b_and, b_not dn hf, Bool.and_eq_true]
    simp
  have := loop_rel (L := fun g i (y : Int32) => LX12_relaxedFrom_48 τ dn K g y (nI i)) (K := K) (g := fun _ (z : Unit) => z) (c := 30) (n := n) (x := -1) (y := ()) (fun k y _ => (y = -1 ∧ ∀ f, f < k → bt (gi τ 7 &&& (dn ^^^ (-1))) f = false) ∨ ∃ f, f < k ∧ y = nI f ∧ bt (gi τ 7 &&& (dn ^^^ (-1))) f = true) (by omega) (Or.inl ⟨rfl, fun f hf => by omega⟩) (fun f y z _ => if_pos (nI_le (Nat.le_refl 30) (by omega))) (by
    rintro g i y z hi hy
    right
    show ∃ x', (if (30 : Int32) ≤ nI i then _ else _) = _ ∧ _
    rw [if_neg (show ¬ (30 : Int32) ≤ nI i from nI_ge (b := 30) hi (by omega))]
    simp only [jn_e, lt_e, nI_p1, ld_n (i := nI i) i rfl hi (by omega), if_true, if_neg one_ne]
    by_cases q : bt (gi τ 7 &&& (dn ^^^ (-1))) i = true
    · rw [if_pos ((shr_bit (by omega)).mpr q)]
      rcases hy with ⟨rfl, _⟩ | ⟨f, h1, rfl, h2⟩
      · rw [if_pos rfl]
        exact ⟨nI i, rfl, Or.inr ⟨i, by omega, rfl, q⟩⟩
      · rw [if_neg (nI_nm1 (by omega)), ld_n f rfl (by omega) (by omega)]
        by_cases q2 : ga τ 6 i ≤ ga τ 6 f
        · rw [if_pos q2]; exact ⟨nI f, rfl, Or.inr ⟨f, by omega, rfl, h2⟩⟩
        · rw [if_neg q2]; exact ⟨nI i, rfl, Or.inr ⟨i, by omega, rfl, q⟩⟩
    · rw [if_neg (fun h => q ((shr_bit (by omega)).mp h))]
      rcases hy with ⟨rfl, h0⟩ | ⟨f, h1, rfl, h2⟩
      · refine ⟨-1, rfl, Or.inl ⟨rfl, fun f hf => ?_⟩⟩
        by_cases e : f = i
        · rw [e]; simpa using q
        · exact h0 f (by omega)
      · exact ⟨nI f, rfl, Or.inr ⟨f, by omega, rfl, h2⟩⟩)
  obtain ⟨y, e1, e2⟩ := this
  rcases e2 with ⟨_, h0⟩ | ⟨f, h1, rfl, h2⟩
  · exfalso; apply hne
    rw [b_zero]
    intro i hi
    rcases Nat.lt_or_ge i 30 with h | h
    · exact h0 i h
    · rw [b_and, s30_b.mp h30 i h hi]; rfl
  · have := (bb f (by omega)).mp h2
    exact ⟨f, h1, this.1, this.2, e1⟩
def RlxS (τ t : SC) : Prop := (∀ k, k ≠ 7 → gi t k = gi τ k) ∧ (∀ a, a ≠ 5 → a ≠ 6 → a ≠ 7 → ga t a = ga τ a) ∧ ∀ j, gl t j = gl τ j
theorem RlxS.same {τ t : SC} (h : RlxS τ t) : SameM τ t := ⟨fun k hk => h.1 k (fun e => by subst e; exact absurd hk (by decide)), fun a ha => h.2.1 a (fun e => by subst e; exact absurd ha (by decide)) (fun e => by subst e; exact absurd ha (by decide)) (fun e => by subst e; exact absurd ha (by decide)), h.2.2 0⟩
theorem relaxed_M {τ : SC} {n c L : Nat} {nd mk : Nat → Int32} {co : Nat → Nat} {x goal : Int32} (hn : 2000 < n) (h24 : c ≤ 24) (ht : TbM c nd mk τ) (hc : TcM c co τ) (hco : ∀ a, a < c → 1 ≤ co a ∧ co a ≤ CP) (hnd : ∀ a, a < c → s30 (nd a)) (hgo : s30 goal) (hgl : ga τ 0 169 = goal) (hL : L ≤ 30) (hs : sub goal (lv c nd mk 0 x L))
    {T : Nat} (hT : T ≤ 30) (hfix : RV true co nd mk c (VK true co nd mk c (v0 x) T) = VK true co nd mk c (v0 x) T) (hmin : ∀ k, k < T → RV true co nd mk c (VK true co nd mk c (v0 x) k) ≠ VK true co nd mk c (v0 x) k) :
    ∃ t ch, f_X12_relaxedFrom n τ x = some (ch, t) ∧ RlxS τ t ∧ RI nd mk c x goal (fun a => vA true co nd a (VK true co nd mk c (v0 x) T)) L (fun _ => True) (gi t 7) ch := by
  have hok0 : Vok (v0 x) := fun f hf => by
    rcases v0_ok x f hf with h | h
    · exact Or.inl (by omega)
    · exact Or.inr h
  have hokT := VK_ok (sm := true) (nd := nd) (mk := mk) hco hok0 T
  unfold f_X12_relaxedFrom
  rw [ld_n (i := 169) 169 rfl (by omega) (by omega), hgl, lt_e]
  obtain ⟨t1, w1, w2, w3⟩ := values_M (τ := si τ 7 (goal &&& (x ^^^ (-1)))) (show 1000 < n by omega) h24 ht hc hco true x hT hfix hmin
  rw [show f_X12_values n (si τ 7 (goal &&& (x ^^^ (-1)))) x 1 = some t1 from w1, bd_e]
  have ht1 : TbM c nd mk t1 := ⟨by rw [w2.2.1 0 (by decide)]; exact ht.1, fun a ha => by rw [w2.2.1 0 (by decide)]; exact ht.2 a ha⟩
  obtain ⟨t2, v1, v2, v3, v4⟩ := levels_M (show 100 < n by omega) h24 ht1 x
  rw [v1, bd_e]
  have key : ∀ (d f : Nat) (s : SC) (dn ch : Int32), 30 - cb dn 30 ≤ d → d < f → RlxS τ s → ga s 5 = ga t2 5 → ga s 6 = ga t2 6 → ga s 7 = ga t2 7 → (∀ i, bt dn i = true → bt (gi s 7) i = true) → RI nd mk c x goal (fun a => vA true co nd a (VK true co nd mk c (v0 x) T)) L (fun i => bt dn i = true) (gi s 7) ch →
      ∃ t ch', LX12_relaxedFrom_31 n x (fun σ22 w23 => some (w23, σ22)) f s dn ch = some (ch', t) ∧ RlxS τ t ∧ RI nd mk c x goal (fun a => vA true co nd a (VK true co nd mk c (v0 x) T)) L (fun _ => True) (gi t 7) ch' := by
    intro d
    induction d with
    | zero =>
      intro f s dn ch hd hf hS h5 h6 h7 hdn hR
      obtain ⟨f, rfl⟩ : ∃ f', f = f' + 1 := ⟨f - 1, by omega⟩
      have hle := cb_le dn 30
      have hall := cb_all (x := dn) (n := 30) (by omega)
      have hz : (gi s 7 &&& (dn ^^^ (-1))) = 0 := by
        rw [b_zero]
        intro i hi
        rw [b_and, b_not dn hi]
        rcases Nat.lt_or_ge i 30 with h | h
        · rw [hall i h]; simp
        · rw [s30_b.mp hR.1 i h hi]; rfl
      rw [LX12_relaxedFrom_31, if_pos hz]
      refine ⟨s, ch, rfl, hS, hR.cong (fun g hg => ⟨fun _ => hall g (s30_bit hR.1 hg), fun _ => trivial⟩)⟩
    | succ d ih =>
      intro f s dn ch hd hf hS h5 h6 h7 hdn hR
      obtain ⟨f, rfl⟩ : ∃ f', f = f' + 1 := ⟨f - 1, by omega⟩
      by_cases hz : (gi s 7 &&& (dn ^^^ (-1))) = 0
      · rw [LX12_relaxedFrom_31, if_pos hz]
        refine ⟨s, ch, rfl, hS, hR.cong (fun g hg => ⟨fun _ => ?_, fun _ => trivial⟩)⟩
        have h30 := s30_bit hR.1 hg
        have := b_zero.mp hz g (by omega)
        rw [b_and, b_not dn (by omega), hg, Bool.true_and] at this
        simpa using this
      · rw [LX12_relaxedFrom_31, if_neg hz]
        obtain ⟨i, hi, hw, hd0, e⟩ := pick_M (τ := s) (dn := dn) (show 100 < n by omega) hR.1 hz (fun w15 => lt (dn ||| (1 <<< (w15 &&& 31))) (fun v16 => bd (f_X12_by n s w15) (fun v18 => lt (ch ||| (1 <<< (v18 &&& 31))) (fun v19 => ld (ga s 0) 173 (0 + v18) (fun v20 => lt (si s 7 ((gi s 7) ||| (v20 &&& (x ^^^ (-1))))) (fun σ21 => LX12_relaxedFrom_31 n x (fun σ22 w23 => some (w23, σ22)) f σ21 v16 v19))))))
        rw [e, lt_e]
        have s0 := hS.2.1 0 (by decide) (by decide) (by decide)
        have hts : TbM c nd mk s := ⟨by rw [s0]; exact ht.1, fun a ha => by rw [s0]; exact ht.2 a ha⟩
        have hcs : TcM c co s := fun a ha => by rw [s0]; exact hc a ha
        obtain ⟨hreach, hxi⟩ := hR.2.1 i hw
        obtain ⟨l, hlL, hli⟩ := isL_ex hreach
        have hl1 := isL_0 hli hxi
        obtain ⟨a, ha, hm, hM, hsn⟩ := MK_ex (u := fun a => vA true co nd a (VK true co nd mk c (v0 x) T)) (by omega) hl1 hli
        have eb := by_M (co := co) (W := VK true co nd mk c (v0 x) T) (show 100 < n by omega) h24 hts hcs hco (fun g hg => by rw [h5, v2.2.1 5 (by decide) (by decide)]; exact w3 g hg) hokT (fun g hg => by rw [h6]; exact v3 g hg) (fun a ha => by rw [h7]; exact v4 a ha) hi hl1 (by omega) hli
        rw [eb, hm, bd_e, lt_e]
        show ∃ t ch', ld (ga s 0) 173 (0 + nI a) _ = _ ∧ _
        rw [ld00 (by omega), (hts.2 a ha).1, lt_e]
        have ri := hR.step (D' := fun g => bt (dn ||| pw i) g = true) hnd h24 hw hM ha (show l - 1 ≤ L by omega) hsn (fun g hg => by
          have := s30_bit hR.1 hg
          show bt (dn ||| pw i) g = true ↔ bt dn g = true ∨ g = i
          rw [b_or, b_pw (by omega) (by omega), Bool.or_eq_true, decide_eq_true_eq]) (fun g hg hxg => by
          by_cases q : bt (dn ||| pw i) g = true
          · left
            have hg32 : g < 32 := by
              rcases Nat.lt_or_ge g 32 with h | h
              · exact h
              · rw [b_big h] at hg; cases hg
            rw [b_or, b_pw (by omega) hg32, Bool.or_eq_true, decide_eq_true_eq] at q
            rcases q with q | q
            · exact hdn g q
            · rw [q]; exact hw
          · exact Or.inr q)
        refine ih f _ (dn ||| pw i) (ch ||| pw a) ?_ (by omega) ⟨fun k hk => ?_, hS.2.1, hS.2.2⟩ h5 h6 h7 (fun g hg => ?_) ri
        · have := cb_lt (n := 30) (x := dn) (y := dn ||| pw i) (fun j _ hj => by rw [b_or, hj]; rfl) ⟨i, hi, by rw [b_or, b_pw (by omega) (by omega), decide_eq_true rfl, Bool.or_true], hd0⟩
          omega
        · rw [gi_si, if_neg hk]; exact hS.1 k hk
        · show bt (gi s 7 ||| (nd a &&& (x ^^^ (-1)))) g = true
          have hg32 : g < 32 := by
            rcases Nat.lt_or_ge g 32 with h | h
            · exact h
            · rw [b_big h] at hg; cases hg
          rw [b_or, b_pw (by omega) hg32, Bool.or_eq_true, decide_eq_true_eq] at hg
          rw [b_or]
          rcases hg with hg | hg
          · rw [hdn g hg]; rfl
          · rw [hg, hw]; rfl
  have g7 : gi t2 7 = goal &&& (x ^^^ (-1)) := by rw [v2.1, w2.1]; rfl
  refine key 30 n t2 0 0 (by omega) (by omega) ⟨fun k hk => ?_, fun a h5 h6 h7 => ?_, fun j => ?_⟩ rfl rfl rfl (fun i h => by rw [b_0] at h; cases h) ?_
  · rw [v2.1, w2.1, gi_si, if_neg hk]
  · rw [v2.2.1 a h6 h7, w2.2.1 a h5]; rfl
  · rw [v2.2.2, w2.2.2]; rfl
  · rw [g7]
    exact (RI.start hgo hs).cong (fun g _ => ⟨fun h => (by rw [b_0] at h; cases h), fun h => h.elim⟩)
