/-! the class's settling -/
def SetS (σ s : SC) : Prop := (∀ k, k ≠ 8 → k ≠ 9 → gi s k = gi σ k) ∧ (∀ a, a ≠ 9 → ga s a = ga σ a) ∧ ∀ j, gl s j = gl σ j
theorem SetS.same {σ s : SC} (h : SetS σ s) : SameC σ s :=
  ⟨fun k hk => h.1 k (fun e => by subst e; exact absurd hk (by decide)) (fun e => by subst e; exact absurd hk (by decide)), fun a ha => h.2.1 a (fun e => by subst e; exact absurd ha (by decide)), h.2.2⟩
def CV (st : Int32) (v : Nat → Nat) (s : SC) : Prop := s30 (gi s 8) ∧ (∀ f, f < 30 → (bt (gi s 8) f = true ↔ v f ≠ FR)) ∧ (∀ f, f < 30 → v f ≠ FR → ga s 9 f = nI (v f)) ∧ (∀ f, f < 30 → bt st f = true → v f = 0) ∧ Vok v
theorem ushr_0 {x : Int32} {i : Nat} (hi : i < 32) (h : (x.toUInt32 >>> ((nI i).toUInt32 &&& Int32.toUInt32 31)).toInt32 = 0) : ∀ j, i ≤ j → bt x j = false := by
  intro j hj
  have := b_ushr i hi x (j - i)
  rw [h, b_0, show i + (j - i) = j by omega] at this
  exact this.symm
theorem and_sh0 {m : Int32} {f : Nat} (hf : f < 32) (h : ¬ bt m f = true) : m &&& (1 <<< (nI f &&& 31)) = 0 := (and_pw hf).mpr (by simpa using h)
theorem and_sh1 {m : Int32} {f : Nat} (hf : f < 32) (h : bt m f = true) : ¬ m &&& (1 <<< (nI f &&& 31)) = 0 := fun e => by rw [(and_pw hf).mp e] at h; cases h
def gC (sm : Bool) (v : Nat → Nat) (x : Int32) (f z : Nat) : Nat := if bt x f = true then (if sm = true then z + v f else (if v f ≤ z then z else v f)) else z
theorem gC_vS {sm : Bool} {v : Nat → Nat} {x : Int32} (hok : Vok v) (hx : ∀ f, f < 30 → bt x f = true → v f ≠ FR) : fo (gC sm v x) 30 0 ≤ 30 * CP ∧ vS sm v x = if fo (gC sm v x) 30 0 ≤ CP then fo (gC sm v x) 30 0 else CP := by
  have hcf := CPFR
  refine fo_rel (g := gC sm v x) (g2 := vg sm v x) (fun k z y => z ≤ k * CP ∧ y = if z ≤ CP then z else CP) ⟨Nat.le_refl 0, by rw [if_pos (Nat.zero_le _)]⟩ (c := 30) ?_
  rintro i z y hi ⟨h1, h2⟩
  have hk : (i + 1) * CP = i * CP + CP := by rw [Nat.add_mul, Nat.one_mul]
  have hk2 : i * CP ≤ 30 * CP := Nat.mul_le_mul_right _ (by omega)
  rw [hk]
  unfold gC vg
  by_cases q : bt x i = true
  · have hne := hx i hi q
    have hle : v i ≤ CP := by rcases hok i hi with h | h; exact h; exact absurd h hne
    rw [if_pos q, if_pos q, if_neg hne]
    have hy : y ≤ CP ∧ ¬ y = FR := by
      rw [h2]
      split <;> omega
    rw [if_neg hy.2]
    by_cases q3 : sm = true
    · rw [if_pos q3, if_pos q3]
      refine ⟨by omega, ?_⟩
      unfold capN
      rw [h2]
      by_cases q4 : z ≤ CP
      · rw [if_pos q4, if_pos (by omega)]
      · rw [if_neg q4, if_neg (by omega : ¬ z + v i ≤ CP), if_pos (by omega)]
        split
        · omega
        · rfl
    · rw [if_neg q3, if_neg q3]
      by_cases q5 : v i ≤ z
      · rw [if_pos q5]
        refine ⟨by omega, ?_⟩
        rw [if_pos (by rw [h2]; split <;> omega), h2]
      · rw [if_neg q5]
        have hz : z ≤ CP := by omega
        rw [if_pos hz] at h2
        refine ⟨by omega, ?_⟩
        rw [if_neg (by omega), if_pos hle]
  · rw [if_neg q, if_neg q]
    exact ⟨by omega, h2⟩
theorem ofAll_C {s : SC} {n : Nat} {sm : Bool} {st x : Int32} {v : Nat → Nat} (hn : 100 < n) (hv : CV st v s) (h9 : gi s 9 = b2i sm) (hx : ∀ f, f < 30 → bt x f = true → v f ≠ FR) : f_X1_ofAll n s x = some (nI (vS sm v x)) := by
  have hcf := CPFR
  have hF : FR < 2 ^ 30 := by decide
  obtain ⟨g1, g2⟩ := gC_vS (sm := sm) hv.2.2.2.2 hx
  unfold f_X1_ofAll
  have := loop_rel (L := fun f i y => LX1_ofAll_4 s x (fun w9 => if w9 ≤ 1000000 then some w9 else some 1000000) f y (nI i)) (K := fun w9 => if w9 ≤ 1000000 then some w9 else some 1000000) (g := gC sm v x) (c := 30) (n := n) (x := 0) (y := 0) (fun k y z => y = nI z ∧ z ≤ k * CP) (by omega) ⟨rfl, Nat.le_refl 0⟩ (fun f y z _ => if_pos (nI_le (Nat.le_refl 30) (by omega))) (by
    rintro f i y z hi ⟨rfl, hz⟩
    have hk : (i + 1) * CP = i * CP + CP := by rw [Nat.add_mul, Nat.one_mul]
    have hk2 : i * CP ≤ 30 * CP := Nat.mul_le_mul_right _ (by omega)
    rw [hk]
    show ((if (30 : Int32) ≤ nI i then _ else _) = _ ∧ _) ∨ ∃ x', (if (30 : Int32) ≤ nI i then _ else _) = _ ∧ _
    rw [if_neg (show ¬ (30 : Int32) ≤ nI i from nI_ge (b := 30) hi (by omega))]
    by_cases q0 : (x.toUInt32 >>> ((nI i).toUInt32 &&& Int32.toUInt32 31)).toInt32 = 0
    · left
      rw [if_pos q0]
      have hid : itf (gC sm v x) i (30 - i) z = z := itf_id _ _ (fun j h1 h2 => if_neg (by rw [ushr_0 (by omega) q0 j h1]; decide))
      rw [hid]
      exact ⟨rfl, rfl, by omega⟩
    · right
      rw [if_neg q0]
      unfold gC
      by_cases q : bt x i = true
      · have hne := hx i hi q
        have hle : v i ≤ CP := by rcases hv.2.2.2.2 i hi with h | h; exact h; exact absurd h hne
        rw [if_neg (and_sh1 (by omega) q), if_pos q, h9]
        simp only [ld_n (i := nI i) i rfl hi (by omega), hv.2.2.1 i hi hne, lt_e, nI_p1, nI_add]
        cases sm with
        | true => exact ⟨_, if_neg (by decide), rfl, by show z + v i ≤ _; omega⟩
        | false =>
          rw [if_pos (show b2i false = 0 from rfl)]
          by_cases q4 : v i ≤ z
          · rw [if_pos (nI_le q4 (by omega))]
            refine ⟨_, rfl, ?_, ?_⟩
            · rw [if_neg (by decide), if_pos q4]
            · rw [if_neg (by decide), if_pos q4]; omega
          · rw [if_neg (nI_ge (by omega) (by omega))]
            refine ⟨_, rfl, ?_, ?_⟩
            · rw [if_neg (by decide), if_neg q4]
            · rw [if_neg (by decide), if_neg q4]; omega
      · rw [if_pos (and_sh0 (by omega) q), if_neg q, lt_e, nI_p1]
        exact ⟨_, rfl, rfl, by omega⟩)
  obtain ⟨x', h1, h2, _⟩ := this
  refine h1.trans ?_
  subst h2
  show (if nI _ ≤ (1000000 : Int32) then _ else _) = _
  rw [g2]
  generalize fo (gC sm v x) 30 0 = z at g1
  by_cases q : z ≤ CP
  · rw [if_pos q, if_pos (show nI z ≤ (1000000 : Int32) from nI_le (b := CP) q (by omega))]
  · rw [if_neg q, if_neg (show ¬ nI z ≤ (1000000 : Int32) from nI_ge (a := CP) (by omega) (by omega))]; rfl
theorem costBy_C {s : SC} {n a : Nat} {sm : Bool} {st : Int32} {v co : Nat → Nat} (hn : 100 < n) (ha : a < 24) (hv : CV st v s) (h9 : gi s 9 = b2i sm) (hco : 1 ≤ co a ∧ co a ≤ CP) (hcs : ga s 3 a = nI (co a)) (hx : ∀ f, f < 30 → bt (ga s 0 a) f = true → v f ≠ FR) : f_X1_costBy n s (nI a) = some (nI (vA sm co (ga s 0) a v)) := by
  have hcf := CPFR
  have hF : FR < 2 ^ 30 := by decide
  unfold f_X1_costBy vA
  rw [ldA ha, ofAll_C hn hv h9 hx, bd_e, ldA ha, hcs, nI_add]
  rcases vS_c (sm := sm) hv.2.2.2.2 (ga s 0 a) with ⟨_, f, h1, h2, h3⟩ | ⟨q, _⟩
  · exact absurd h3 (hx f h1 h2)
  · rw [if_neg (by omega : ¬ vS sm v (ga s 0 a) = FR)]
    unfold capN
    rw [if_pos (show vS sm v (ga s 0 a) + co a < FR by omega)]
    by_cases q2 : vS sm v (ga s 0 a) + co a < CP
    · rw [if_pos (show nI (vS sm v (ga s 0 a) + co a) < (1000000 : Int32) from nI_lt (b := CP) q2 (by omega)), if_pos (show vS sm v (ga s 0 a) + co a ≤ CP by omega)]
    · rw [if_neg (show ¬ nI (vS sm v (ga s 0 a) + co a) < (1000000 : Int32) from nI_nlt (b := CP) (by omega) (by omega))]
      split
      · rw [show vS sm v (ga s 0 a) + co a = CP by omega]; rfl
      · rfl
theorem lower_C {σ s : SC} {n w : Nat} {st m : Int32} {v : Nat → Nat} (hn : 100 < n) (hw : w ≤ CP) (hS : SetS σ s) (hv : CV st v s) :
    ∃ s', f_X1_lower n s (m &&& (st ^^^ (-1))) (nI w) = some (b2i (lw m w (v, false)).2, s') ∧ SetS σ s' ∧ CV st (lw m w (v, false)).1 s' ∧ gi s' 9 = gi s 9 := by
  have hcf := CPFR
  have hF : FR < 2 ^ 30 := by decide
  unfold f_X1_lower
  have := loop_rel (L := fun f i (y : SC × Int32) => LX1_lower_5 (m &&& (st ^^^ (-1))) (nI w) (fun σ9 w10 => zb w10 (some (w10, σ9))) f y.1 y.2 (nI i)) (K := fun y => zb y.2 (some (y.2, y.1))) (g := lwF m w) (c := 30) (n := n) (x := (s, 0)) (y := (v, false)) (fun _ y z => SetS σ y.1 ∧ CV st z.1 y.1 ∧ y.2 = b2i z.2 ∧ gi y.1 9 = gi s 9) (by omega) ⟨hS, hv, rfl, rfl⟩ (fun f y z _ => if_pos (nI_le (Nat.le_refl 30) (by omega))) (by
    rintro f i ⟨t, y3⟩ ⟨u, bb⟩ hi ⟨i1, i2, i3, i4⟩
    have i1 : SetS σ t := i1
    have i2 : CV st u t := i2
    have i3 : y3 = b2i bb := i3
    have i4 : gi t 9 = gi s 9 := i4
    subst i3
    obtain ⟨c1, c2, c3, c4, c5⟩ := i2
    have c1 : s30 (gi t 8) := c1
    have c2 : ∀ f, f < 30 → (bt (gi t 8) f = true ↔ u f ≠ FR) := c2
    have c3 : ∀ f, f < 30 → u f ≠ FR → ga t 9 f = nI (u f) := c3
    have c4 : ∀ f, f < 30 → bt st f = true → u f = 0 := c4
    have c5 : Vok u := c5
    show ((if (30 : Int32) ≤ nI i then _ else _) = _ ∧ _) ∨ ∃ x', (if (30 : Int32) ≤ nI i then _ else _) = _ ∧ _
    rw [if_neg (show ¬ (30 : Int32) ≤ nI i from nI_ge (b := 30) hi (by omega))]
    have off : ∀ j, j < 30 → bt (m &&& (st ^^^ (-1))) j = false → lwF m w j (u, bb) = (u, bb) := by
      intro j hj h
      refine if_neg (fun hh => ?_)
      rw [b_and, b_not st (by omega), hh.1] at h
      have hb : bt st j = true := by
        cases hb : bt st j with
        | true => rfl
        | false => rw [hb] at h; cases h
      have : u j = 0 := c4 j hj hb
      have h2 : w < u j := hh.2
      omega
    by_cases q0 : ((m &&& (st ^^^ (-1))).toUInt32 >>> ((nI i).toUInt32 &&& Int32.toUInt32 31)).toInt32 = 0
    · left
      rw [if_pos q0]
      have hid : itf (lwF m w) i (30 - i) (u, bb) = (u, bb) := itf_id _ _ (fun j h1 h2 => off j (by omega) (ushr_0 (by omega) q0 j h1))
      rw [hid]
      exact ⟨rfl, i1, ⟨c1, c2, c3, c4, c5⟩, rfl, i4⟩
    · right
      rw [if_neg q0]
      simp only [lt_e, jn_e, nI_p1]
      by_cases q : bt (m &&& (st ^^^ (-1))) i = true
      · have qq := q
        rw [b_and, b_not st (by omega)] at qq
        have hm : bt m i = true := by
          cases hb : bt m i with
          | true => rfl
          | false => rw [hb] at qq; cases qq
        have hst : bt st i = false := by
          cases hb : bt st i with
          | false => rfl
          | true => rw [hb, hm] at qq; cases qq
        rw [if_neg (and_sh1 (by omega) q)]
        have set : ∃ x' : SC × Int32, (ck 30 (nI i) (LX1_lower_5 (m &&& (st ^^^ (-1))) (nI w) (fun σ9 w10 => zb w10 (some (w10, σ9))) f (si (sa t 9 (upd (ga t 9) (nI i).toNatClampNeg (nI w))) 8 (gi (sa t 9 (upd (ga t 9) (nI i).toNatClampNeg (nI w))) 8 ||| 1 <<< (nI i &&& 31))) 1 (nI (i + 1)))) = LX1_lower_5 (m &&& (st ^^^ (-1))) (nI w) (fun σ9 w10 => zb w10 (some (w10, σ9))) f x'.1 x'.2 (nI (i + 1)) ∧ SetS σ x'.1 ∧ CV st (fun j => if j = i then w else u j) x'.1 ∧ x'.2 = b2i true ∧ gi x'.1 9 = gi s 9 := by
          refine ⟨(_, 1), ck_n i rfl hi (by omega), ?_, ⟨?_, ?_, ?_, ?_, ?_⟩, rfl, i4⟩
          · refine ⟨fun k h8 h9 => ?_, fun a ha => ?_, fun j => i1.2.2 j⟩
            · show (if k = 8 then _ else gi t k) = _
              rw [if_neg h8]; exact i1.1 k h8 h9
            · show (if a = 9 then _ else ga t a) = _
              rw [if_neg ha]; exact i1.2.1 a ha
          · exact s30_or c1 (s30_pw hi)
          · intro g hg
            show bt (gi t 8 ||| pw i) g = true ↔ (if g = i then w else u g) ≠ FR
            rw [b_or, b_pw (by omega) (by omega)]
            by_cases e : g = i
            · subst e
              rw [if_pos rfl, decide_eq_true rfl, Bool.or_true]
              exact ⟨fun _ => by omega, fun _ => rfl⟩
            · rw [if_neg e, decide_eq_false e, Bool.or_false]
              exact c2 g hg
          · intro g hg hne
            show upd (ga t 9) (nI i).toNatClampNeg (nI w) g = nI (if g = i then w else u g)
            rw [nI_clamp (by omega), ud_s]
            by_cases e : g = i
            · rw [if_pos e, if_pos e]
            · rw [if_neg e, if_neg e]
              have hne : (if g = i then w else u g) ≠ FR := hne
              rw [if_neg e] at hne
              exact c3 g hg hne
          · intro g hg hb
            have e : ¬ g = i := fun e => by subst e; rw [hst] at hb; cases hb
            show (if g = i then w else u g) = 0
            rw [if_neg e]; exact c4 g hg hb
          · intro g hg
            show (if g = i then w else u g) ≤ CP ∨ (if g = i then w else u g) = FR
            by_cases e : g = i
            · rw [if_pos e]; exact Or.inl hw
            · rw [if_neg e]; exact c5 g hg
        by_cases q1 : bt (gi t 8) i = true
        · rw [if_neg (and_sh1 (by omega) q1)]
          have hne := (c2 i hi).mp q1
          rw [ld_n i rfl hi (by omega), c3 i hi hne]
          have hui : u i ≤ CP := by rcases c5 i hi with h | h; exact h; exact absurd h hne
          by_cases q2 : u i ≤ w
          · rw [if_pos (nI_le q2 (by omega)), show lwF m w i (u, bb) = (u, bb) from if_neg (fun h => by have h2 : w < u i := h.2; omega)]
            exact ⟨(t, b2i bb), rfl, i1, ⟨c1, c2, c3, c4, c5⟩, rfl, i4⟩
          · rw [if_neg (nI_ge (by omega) (by omega)), show lwF m w i (u, bb) = (fun j => if j = i then w else u j, true) from if_pos ⟨hm, show w < u i by omega⟩]
            exact set
        · have hFR : u i = FR := Classical.byContradiction fun h => q1 ((c2 i hi).mpr h)
          rw [if_pos (and_sh0 (by omega) q1), show lwF m w i (u, bb) = (fun j => if j = i then w else u j, true) from if_pos ⟨hm, show w < u i by omega⟩]
          exact set
      · rw [if_pos (and_sh0 (by omega) q), off i hi (by simpa using q)]
        exact ⟨(t, b2i bb), rfl, i1, ⟨c1, c2, c3, c4, c5⟩, rfl, i4⟩)
  obtain ⟨⟨s', y'⟩, h1, h2, h3, h4, h5⟩ := this
  have h4 : y' = b2i _ := h4
  subst h4
  refine ⟨s', h1.trans ?_, h2, h3, h5⟩
  refine zb_e ?_ _
  unfold b2i
  split
  · exact Or.inr rfl
  · exact Or.inl rfl
theorem lw_FR {m : Int32} {v : Nat → Nat} (b : Bool) (h : Vok v) : lw m FR (v, b) = (v, b) := by
  refine itf_id _ _ (fun j _ hj => if_neg (fun hh => ?_))
  have h1 := Vok_FR h (show j < 30 by omega)
  have h2 : FR < v j := hh.2
  omega
theorem known_C {s : SC} {st x : Int32} {v : Nat → Nat} (hx : s30 x) (hv : CV st v s) : sub x (gi s 8) ↔ ∀ f, f < 30 → bt x f = true → v f ≠ FR := by
  rw [sub_iff]
  constructor
  · intro h f hf hb
    exact (hv.2.1 f hf).mp (h f (by omega) hb)
  · intro h i _ hb
    have := s30_bit hx hb
    exact (hv.2.1 i this).mpr (h i this hb)
/-- what the class's table must be -/
def TcC (c : Nat) (co : Nat → Nat) (σ : SC) : Prop := gi σ 6 = nI c ∧ ∀ a, a < c → s30 (ga σ 0 a) ∧ ga σ 3 a = nI (co a)
theorem round_C {σ s : SC} {n c : Nat} {co : Nat → Nat} {sm : Bool} {st : Int32} {v : Nat → Nat} (hn : 100 < n) (h24 : c ≤ 24) (ht : TcC c co σ) (hco : ∀ a, a < c → 1 ≤ co a ∧ co a ≤ CP) (K : SC → Int32 → Option SC) (hS : SetS σ s) (hv : CV st v s) (h9 : gi s 9 = b2i sm) :
    ∃ s', LX1_settle_40 n st K n s 0 0 = K s' (b2i (fo (rdF sm co (ga σ 0) (ga σ 1)) c (v, false)).2) ∧ SetS σ s' ∧ CV st (RV sm co (ga σ 0) (ga σ 1) c v) s' ∧ gi s' 9 = b2i sm := by
  have hcf := CPFR
  have := loop_rel (L := fun f i (y : SC × Int32) => LX1_settle_40 n st K f y.1 y.2 (nI i)) (K := fun y => K y.1 y.2) (g := rdF sm co (ga σ 0) (ga σ 1)) (c := c) (n := n) (x := (s, 0)) (y := (v, false)) (fun _ y z => SetS σ y.1 ∧ CV st z.1 y.1 ∧ y.2 = b2i z.2 ∧ gi y.1 9 = b2i sm) (by omega) ⟨hS, hv, rfl, h9⟩ (by
    rintro f ⟨t, y3⟩ z ⟨i1, _⟩
    have i1 : SetS σ t := i1
    show (if gi t 6 ≤ nI c then _ else _) = _
    rw [i1.1 6 (by decide) (by decide), ht.1, if_pos (nI_le (Nat.le_refl c) (by omega))]) (by
    rintro f i ⟨t, y3⟩ ⟨u, bb⟩ hi ⟨i1, i2, i3, i4⟩
    have i1 : SetS σ t := i1
    have i2 : CV st u t := i2
    have i3 : y3 = b2i bb := i3
    have i4 : gi t 9 = b2i sm := i4
    subst i3
    right
    have t0 := i1.2.1 0 (by decide)
    have t1 := i1.2.1 1 (by decide)
    have t3 := i1.2.1 3 (by decide)
    show ∃ x', (if gi t 6 ≤ nI i then _ else _) = _ ∧ _
    rw [i1.1 6 (by decide) (by decide), ht.1, if_neg (nI_ge hi (by omega)), allowed_C (by omega), bd_e, nI_p1, t0]
    have hk := known_C (ht.2 i hi).1 i2
    by_cases q : sub (ga σ 0 i) (gi t 8)
    · have hne := hk.mp q
      have hA := vA_c (sm := sm) (nd := ga σ 0) hco i2.2.2.2.2 hi
      have hw : vA sm co (ga σ 0) i u ≤ CP := by
        rcases hA with ⟨_, g, h1, h2, h3⟩ | ⟨h, _⟩
        · exact absurd h3 (hne g h1 h2)
        · exact h
      have e := costBy_C (sm := sm) (co := co) hn (show i < 24 by omega) i2 i4 (hco i hi) (by rw [t3]; exact (ht.2 i hi).2) (by rw [t0]; exact hne)
      rw [t0] at e
      rw [if_pos q, if_neg one_ne, ldA (by omega), t1, e, bd_e]
      obtain ⟨s', w1, w2, w3, w4⟩ := lower_C (m := ga σ 1 i) hn hw i1 i2
      rw [w1, bd2_e]
      have e1 : (rdF sm co (ga σ 0) (ga σ 1) i (u, bb)).1 = (lw (ga σ 1 i) (vA sm co (ga σ 0) i u) (u, false)).1 := (lw_v _ _ u bb).trans (lw_v _ _ u false).symm
      have e2 : (rdF sm co (ga σ 0) (ga σ 1) i (u, bb)).2 = (bb || (lw (ga σ 1 i) (vA sm co (ga σ 0) i u) (u, false)).2) := by
        have f1 : (rdF sm co (ga σ 0) (ga σ 1) i (u, bb)).2 = true ↔ _ := lw_f (ga σ 1 i) (vA sm co (ga σ 0) i u) u bb
        have f2 := lw_f (ga σ 1 i) (vA sm co (ga σ 0) i u) u false
        rw [Bool.eq_iff_iff, f1, Bool.or_eq_true, f2]
        simp
      refine ⟨(s', b2i (rdF sm co (ga σ 0) (ga σ 1) i (u, bb)).2), ?_, w2, ?_, rfl, w4.trans i4⟩
      · rw [e2]
        generalize (lw (ga σ 1 i) (vA sm co (ga σ 0) i u) (u, false)).2 = d
        cases d with
        | false => rw [if_pos (show b2i false = 0 from rfl), Bool.or_false]; rfl
        | true => rw [if_neg (show ¬ b2i true = 0 by decide), Bool.or_true]; rfl
      · show CV st (rdF sm co (ga σ 0) (ga σ 1) i (u, bb)).1 s'
        rw [e1]; exact w3
    · rw [if_neg q, if_pos rfl, lt_e]
      have hA := vA_c (sm := sm) (nd := ga σ 0) hco i2.2.2.2.2 hi
      have e : rdF sm co (ga σ 0) (ga σ 1) i (u, bb) = (u, bb) := by
        rcases hA with ⟨h, _⟩ | ⟨_, h⟩
        · show lw _ (vA sm co (ga σ 0) i u) (u, bb) = _
          rw [h]; exact lw_FR bb i2.2.2.2.2
        · exact absurd (hk.mpr (fun f hf hb => (h f hf hb).1)) q
      rw [e]
      exact ⟨(t, b2i bb), rfl, i1, i2, rfl, i4⟩)
  obtain ⟨⟨s', y'⟩, h1, h2, h3, h4, h5⟩ := this
  have h4 : y' = b2i _ := h4
  subst h4
  refine ⟨s', h1, h2, ?_, h5⟩
  rw [← rd_1 c (v, false)]
  exact h3
theorem settle_C {σ : SC} {n c : Nat} {co : Nat → Nat} (hn : 2000 < n) (h24 : c ≤ 24) (ht : TcC c co σ) (hco : ∀ a, a < c → 1 ≤ co a ∧ co a ≤ CP) (sm : Bool) {x : Int32} (hx : s30 x) {T : Nat} (hT : T ≤ 30) (hfix : RV sm co (ga σ 0) (ga σ 1) c (VK sm co (ga σ 0) (ga σ 1) c (v0 x) T) = VK sm co (ga σ 0) (ga σ 1) c (v0 x) T) (hmin : ∀ k, k < T → RV sm co (ga σ 0) (ga σ 1) c (VK sm co (ga σ 0) (ga σ 1) c (v0 x) k) ≠ VK sm co (ga σ 0) (ga σ 1) c (v0 x) k) :
    ∃ s, f_X1_settle n σ x (b2i sm) = some s ∧ SetS σ s ∧ CV x (VK sm co (ga σ 0) (ga σ 1) c (v0 x) T) s ∧ gi s 9 = b2i sm := by
  have hF : FR ≠ 0 := by decide
  unfold f_X1_settle
  rw [zb_e (by cases sm; exact Or.inl rfl; exact Or.inr rfl)]
  simp only [lt_e]
  have key : ∀ (d f k : Nat) (s : SC), k + d = T → d + 1 < f → SetS σ s → CV x (VK sm co (ga σ 0) (ga σ 1) c (v0 x) k) s → gi s 9 = b2i sm → ∃ t, LX1_settle_23 n x (fun σ19 => some σ19) f s 1 (nI k) = some t ∧ SetS σ t ∧ CV x (VK sm co (ga σ 0) (ga σ 1) c (v0 x) T) t ∧ gi t 9 = b2i sm := by
    intro d
    induction d with
    | zero =>
      intro f k s hk hf hS hv h9
      obtain ⟨f, rfl⟩ : ∃ f', f = f' + 1 := ⟨f - 1, by omega⟩
      obtain ⟨f, rfl⟩ : ∃ f', f = f' + 1 := ⟨f - 1, by omega⟩
      have e : k = T := by omega
      subst e
      rw [LX1_settle_23, if_neg one_ne, if_neg (show ¬ (1000 : Int32) ≤ nI k from nI_ge (b := 1000) (by omega) (by omega))]
      obtain ⟨t', w1, w2, w3, w4⟩ := round_C (show 100 < n by omega) h24 ht hco (fun σ16 w17 => lt (nI k + 1) (fun v18 => LX1_settle_23 n x (fun σ19 => some σ19) (f + 1) σ16 w17 v18)) hS hv h9
      rw [w1, (rd_2 c _).mpr hfix, lt_e, LX1_settle_23, if_pos (show b2i false = 0 from rfl)]
      rw [hfix] at w3
      exact ⟨t', rfl, w2, w3, w4⟩
    | succ d ih =>
      intro f k s hk hf hS hv h9
      obtain ⟨f, rfl⟩ : ∃ f', f = f' + 1 := ⟨f - 1, by omega⟩
      rw [LX1_settle_23, if_neg one_ne, if_neg (show ¬ (1000 : Int32) ≤ nI k from nI_ge (b := 1000) (by omega) (by omega))]
      obtain ⟨t', w1, w2, w3, w4⟩ := round_C (show 100 < n by omega) h24 ht hco (fun σ16 w17 => lt (nI k + 1) (fun v18 => LX1_settle_23 n x (fun σ19 => some σ19) f σ16 w17 v18)) hS hv h9
      have hb : (fo (rdF sm co (ga σ 0) (ga σ 1)) c (VK sm co (ga σ 0) (ga σ 1) c (v0 x) k, false)).2 = true := by
        cases hb : (fo (rdF sm co (ga σ 0) (ga σ 1)) c (VK sm co (ga σ 0) (ga σ 1) c (v0 x) k, false)).2 with
        | true => rfl
        | false => exact absurd ((rd_2 c _).mp hb) (hmin k (by omega))
      rw [w1, hb, lt_e, nI_p1]
      exact ih f (k + 1) t' (by omega) (by omega) w2 w3 w4
  have v0_1 : ∀ f, f < 30 → (bt x f = true ↔ v0 x f ≠ FR) := by
    intro f hf
    unfold v0
    by_cases q : bt x f = true
    · rw [if_pos ⟨hf, q⟩]; exact ⟨fun _ => by omega, fun _ => q⟩
    · rw [if_neg (fun h => q h.2)]; exact ⟨fun h => absurd h q, fun h => absurd rfl h⟩
  refine key T n 0 _ (by omega) (by omega) ⟨fun k h8 h9 => ?_, fun a ha => ?_, fun _ => rfl⟩ ⟨hx, v0_1, fun f hf hne => ?_, fun f hf hb => if_pos ⟨hf, hb⟩, fun f hf => ?_⟩ rfl
  · show gi (si (si σ 9 (b2i sm)) 8 x) k = _
    rw [gi_si, if_neg h8, gi_si, if_neg h9]
  · rw [ga_sa, if_neg ha]; rfl
  · rcases v0_ok x f hf with h | h
    · show (0 : Int32) = nI (v0 x f)
      rw [h]; rfl
    · exact absurd h hne
  · show v0 x f ≤ CP ∨ v0 x f = FR
    rcases v0_ok x f hf with h | h
    · exact Or.inl (by omega)
    · exact Or.inr h
