/-! GUESSES: the class's settling and the reference's values go alike -/
theorem itf_id {α : Type} {g : Nat → α → α} {y : α} : ∀ (d i : Nat), (∀ j, i ≤ j → j < i + d → g j y = y) → itf g i d y = y
  | 0, _, _ => rfl
  | d + 1, i, h => by
    show itf g (i + 1) d (g i y) = y
    rw [h i (by omega) (by omega)]
    exact itf_id d (i + 1) (fun j h1 h2 => h j (by omega) (by omega))
theorem loop_relx {α β γ : Type} (L : Nat → Nat → α → Option β) (K : α → Option β) (g : Nat → γ → γ) (c : Nat) (Rl : Nat → α → γ → Prop)
    (hend : ∀ f x y, Rl c x y → L (f + 1) c x = K x)
    (hstep : ∀ f i x y, i < c → Rl i x y → (L (f + 1) i x = K x ∧ Rl c x (itf g i (c - i) y)) ∨ ∃ x', L (f + 1) i x = L f (i + 1) x' ∧ Rl (i + 1) x' (g i y)) :
    ∀ (d f i : Nat) (x : α) (y : γ), i + d = c → d < f → Rl i x y → ∃ x', L f i x = K x' ∧ Rl c x' (itf g i d y) := by
  intro d
  induction d with
  | zero =>
    intro f i x y h1 h2 hR
    obtain ⟨f, rfl⟩ : ∃ f', f = f' + 1 := ⟨f - 1, by omega⟩
    have e : i = c := by omega
    subst e
    exact ⟨x, hend f x y hR, hR⟩
  | succ d ih =>
    intro f i x y h1 h2 hR
    obtain ⟨f, rfl⟩ : ∃ f', f = f' + 1 := ⟨f - 1, by omega⟩
    rcases hstep f i x y (by omega) hR with ⟨a, b⟩ | ⟨x', a, b⟩
    · rw [show c - i = d + 1 by omega] at b
      exact ⟨x, a, b⟩
    · rw [a]
      exact ih f (i + 1) x' (g i y) (by omega) (by omega) b
theorem loop_rel {α β γ : Type} {L : Nat → Nat → α → Option β} {K : α → Option β} {g : Nat → γ → γ} {c n : Nat} {x : α} {y : γ} (Rl : Nat → α → γ → Prop) (hn : c < n) (h0 : Rl 0 x y)
    (hend : ∀ f x y, Rl c x y → L (f + 1) c x = K x)
    (hstep : ∀ f i x y, i < c → Rl i x y → (L (f + 1) i x = K x ∧ Rl c x (itf g i (c - i) y)) ∨ ∃ x', L (f + 1) i x = L f (i + 1) x' ∧ Rl (i + 1) x' (g i y)) : ∃ x', L n 0 x = K x' ∧ Rl c x' (fo g c y) :=
  loop_relx L K g c Rl hend hstep c n 0 x y (by omega) hn h0
def b2i (b : Bool) : Int32 := if b = true then 1 else 0
theorem b2i_0 {b : Bool} : b2i b = 0 ↔ b = false := by cases b <;> decide
def v0 (x : Int32) (f : Nat) : Nat := if f < 30 ∧ bt x f = true then 0 else FR
theorem v0_ok (x : Int32) : ∀ f, f < 30 → v0 x f = 0 ∨ v0 x f = FR := fun f hf => by unfold v0; split <;> simp
theorem FR_i : (100000000 : Int32) = nI FR := rfl
theorem nI_FR {a : Nat} (h : a ≤ FR) : nI a = 100000000 ↔ a = FR := by
  have : FR < 2 ^ 31 := by decide
  rw [FR_i, nI_eq (by omega) this]
theorem capped_n {z : Nat} (hz : z < 2 ^ 31) : f_X12_capped (nI z) = nI (capN z) := by
  have h1 : FR < 2 ^ 31 := by decide
  have h2 : CP < 2 ^ 31 := by decide
  unfold f_X12_capped capN
  by_cases q : z < FR
  · rw [if_pos q, if_pos (show nI z < (100000000 : Int32) from nI_lt (b := FR) q h1)]
    by_cases q2 : z ≤ CP
    · rw [if_pos q2, if_pos (show nI z ≤ (1000000 : Int32) from nI_le (b := CP) q2 h2)]
    · rw [if_neg q2, if_neg (show ¬ nI z ≤ (1000000 : Int32) from nI_ge (a := CP) (by omega) hz)]; rfl
  · rw [if_neg q, if_neg (show ¬ nI z < (100000000 : Int32) from nI_nlt (b := FR) (by omega) hz)]; rfl
/-! the reference -/
def MV (v : Nat → Nat) (τ : SC) : Prop := ∀ f, f < 30 → ga τ 5 f = nI (v f)
def ValS (τ t : SC) : Prop := (∀ k, gi t k = gi τ k) ∧ (∀ a, a ≠ 5 → ga t a = ga τ a) ∧ ∀ j, gl t j = gl τ j
theorem ValS.same {τ t : SC} (h : ValS τ t) : SameM τ t := ⟨fun k _ => h.1 k, fun a ha => h.2.1 a (fun e => by subst e; exact absurd ha (by decide)), h.2.2 0⟩
theorem Vok_FR {v : Nat → Nat} (h : Vok v) {f : Nat} (hf : f < 30) : v f ≤ FR := by
  have := CPFR
  rcases h f hf with q | q <;> omega
theorem valueOf_M {τ : SC} {v : Nat → Nat} {n : Nat} (hn : 100 < n) (hv : MV v τ) (hok : Vok v) (sm : Bool) (x : Int32) : f_X12_valueOf n τ x (b2i sm) = some (nI (vS sm v x)) := by
  have hcf := CPFR
  have hF : FR < 2 ^ 30 := by decide
  unfold f_X12_valueOf
  have := loop_rel (L := fun f i y => LX12_valueOf_5 τ x (b2i sm) (fun w12 => some w12) f y (nI i)) (K := fun w6 => some w6) (g := vg sm v x) (c := 30) (n := n) (x := 0) (y := 0) (fun _ y z => y = nI z ∧ z ≤ FR) (by omega) ⟨rfl, Nat.zero_le _⟩ (fun f y z _ => if_pos (nI_le (Nat.le_refl 30) (by omega))) (by
    rintro f i y z hi ⟨rfl, hz⟩
    right
    show ∃ x', (if (30 : Int32) ≤ nI i then _ else _) = _ ∧ _
    rw [if_neg (show ¬ (30 : Int32) ≤ nI i from nI_ge (b := 30) hi (by omega))]
    have hvi := Vok_FR hok hi
    unfold vg
    by_cases q : bt x i = true
    · rw [if_pos ((shr_bit (by omega)).mpr q), if_pos q]
      simp only [ld_n (i := nI i) i rfl hi (by omega), hv i hi, lt_e, nI_p1]
      by_cases q2 : v i = FR
      · rw [if_pos ((nI_FR hvi).mpr q2), if_pos q2]; exact ⟨_, rfl, rfl, Nat.le_refl _⟩
      · rw [if_neg (fun h => q2 ((nI_FR hvi).mp h)), if_neg q2]
        by_cases q3 : z = FR
        · rw [if_pos ((nI_FR hz).mpr q3), if_pos q3]; exact ⟨_, rfl, rfl, Nat.le_refl _⟩
        · rw [if_neg (fun h => q3 ((nI_FR hz).mp h)), if_neg q3]
          cases sm with
          | true =>
            rw [if_pos rfl, if_neg (show ¬ b2i true = 0 by decide), nI_add, capped_n (by omega)]
            refine ⟨_, rfl, rfl, ?_⟩
            unfold capN
            split
            · split <;> omega
            · omega
          | false =>
            rw [if_pos (show b2i false = 0 from rfl), if_neg (show ¬ (false = true) by decide)]
            by_cases q4 : v i ≤ z
            · rw [if_pos (nI_le q4 (by omega)), if_pos q4]; exact ⟨_, rfl, rfl, hz⟩
            · rw [if_neg (nI_ge (by omega) (by omega)), if_neg q4]; exact ⟨_, rfl, rfl, hvi⟩
    · rw [if_neg (fun h => q ((shr_bit (by omega)).mp h)), if_neg q, lt_e, nI_p1]
      exact ⟨_, rfl, rfl, hz⟩)
  obtain ⟨x', h1, h2, _⟩ := this
  exact h1.trans (congrArg some h2)
/-- costs -/
def TcM (c : Nat) (co : Nat → Nat) (τ : SC) : Prop := ∀ a, a < c → ga τ 0 (72 + a) = nI (co a)
theorem valueBy_M {τ : SC} {v : Nat → Nat} {n c : Nat} {nd mk : Nat → Int32} {co : Nat → Nat} (hn : 100 < n) (h24 : c ≤ 24) (ht : TbM c nd mk τ) (hc : TcM c co τ) (hco : ∀ a, a < c → 1 ≤ co a ∧ co a ≤ CP) (hv : MV v τ) (hok : Vok v) (sm : Bool) {a : Nat} (ha : a < c) : f_X12_valueBy n τ (nI a) (b2i sm) = some (nI (vA sm co nd a v)) := by
  have hcf := CPFR
  have hF : FR < 2 ^ 30 := by decide
  have h1 := hco a ha
  unfold f_X12_valueBy vA
  rw [ld00 (by omega), (ht.2 a ha).1, valueOf_M hn hv hok, bd_e]
  have hle : vS sm v (nd a) ≤ FR := by
    rcases vS_c (sm := sm) hok (nd a) with ⟨q, _⟩ | ⟨q, _⟩ <;> omega
  by_cases q : vS sm v (nd a) = FR
  · rw [if_pos ((nI_FR hle).mpr q), if_pos q]; rfl
  · rw [if_neg (fun h => q ((nI_FR hle).mp h)), if_neg q, ld72 (by omega), hc a ha, nI_add, capped_n (by omega)]
theorem vA_le {sm : Bool} {co : Nat → Nat} {nd : Nat → Int32} {c : Nat} (hco : ∀ a, a < c → 1 ≤ co a ∧ co a ≤ CP) {v : Nat → Nat} (hv : Vok v) {a : Nat} (ha : a < c) : vA sm co nd a v ≤ CP ∨ vA sm co nd a v = FR := by
  rcases vA_c (sm := sm) (nd := nd) hco hv ha with ⟨q, _⟩ | ⟨q, _⟩
  · exact Or.inr q
  · exact Or.inl q
theorem lwF_ok {m : Int32} {w f : Nat} {p : (Nat → Nat) × Bool} (hw : w ≤ CP ∨ w = FR) (h : Vok p.1) : Vok (lwF m w f p).1 := by
  unfold lwF
  split
  · intro j hj
    show (if j = f then w else p.1 j) ≤ CP ∨ (if j = f then w else p.1 j) = FR
    by_cases e : j = f
    · rw [if_pos e]; exact hw
    · rw [if_neg e]; exact h j hj
  · exact h
theorem lower_M {τ : SC} {n c w a : Nat} {nd mk : Nat → Int32} (hn : 100 < n) (h24 : c ≤ 24) (ht : TbM c nd mk τ) (ha : a < c) (hw : w ≤ CP ∨ w = FR) (K : SC → Int32 → Option SC) {v : Nat → Nat} {b : Bool} {t : SC} (hS : ValS τ t) (hv : MV v t) (hok : Vok v) :
    ∃ t', LX12_values_71 (nI a) (nI w) K n t (b2i b) 0 = K t' (b2i (lw (mk a) w (v, b)).2) ∧ ValS τ t' ∧ MV (lw (mk a) w (v, b)).1 t' ∧ Vok (lw (mk a) w (v, b)).1 := by
  have hcf := CPFR
  have hF : FR < 2 ^ 30 := by decide
  have hwF : w ≤ FR := by omega
  have := loop_rel (L := fun f i (y : SC × Int32) => LX12_values_71 (nI a) (nI w) K f y.1 y.2 (nI i)) (K := fun y => K y.1 y.2) (g := lwF (mk a) w) (c := 30) (n := n) (x := (t, b2i b)) (y := (v, b)) (fun _ y z => ValS τ y.1 ∧ MV z.1 y.1 ∧ y.2 = b2i z.2 ∧ Vok z.1) (by omega) ⟨hS, hv, rfl, hok⟩ (fun f y z _ => if_pos (nI_le (Nat.le_refl 30) (by omega))) (by
    rintro f i ⟨s, y3⟩ ⟨u, bb⟩ hi ⟨i1, i2, i3, i4⟩
    have i3 : y3 = b2i bb := i3
    subst i3
    right
    show ∃ x', (if (30 : Int32) ≤ nI i then _ else _) = _ ∧ _
    rw [if_neg (show ¬ (30 : Int32) ≤ nI i from nI_ge (b := 30) hi (by omega))]
    have i2 : MV u s := i2
    have i1 : ValS τ s := i1
    have hui : u i ≤ FR := Vok_FR i4 hi
    simp only [jn_e, lt_e, ld_n (i := nI i) i rfl hi (by omega), ck_n (i := nI i) i rfl hi (by omega), nI_clamp (show i < 2 ^ 31 by omega), nI_p1, ld24 (show a < 24 by omega)]
    rw [i1.2.1 0 (by decide), (ht.2 a ha).2, i2 i hi]
    have hst : ∀ z : Int32, ValS τ (sa s 5 (upd (ga s 5) i z)) := fun z => ⟨fun k => i1.1 k, fun k hk => by rw [ga_sa, if_neg hk, i1.2.1 k hk], fun j => i1.2.2 j⟩
    have hnew : ∀ z : Nat, MV (fun j => if j = i then z else u j) (sa s 5 (upd (ga s 5) i (nI z))) := by
      intro z f hf
      rw [ga_sa, if_pos rfl, ud_s]
      by_cases e : f = i
      · rw [if_pos e]; show _ = nI (if f = i then z else u f); rw [if_pos e]
      · rw [if_neg e, i2 f hf]; show _ = nI (if f = i then z else u f); rw [if_neg e]
    have hold : MV u (sa s 5 (upd (ga s 5) i (nI (u i)))) := by
      intro f hf
      rw [ga_sa, if_pos rfl, ud_s]
      by_cases e : f = i
      · rw [if_pos e, e]
      · rw [if_neg e, i2 f hf]
    have stay : ∀ (P : Prop), (¬ (bt (mk a) i = true ∧ w < u i)) → lwF (mk a) w i (u, bb) = (u, bb) := fun _ h => if_neg h
    by_cases q : bt (mk a) i = true
    · rw [if_pos ((shr_bit (by omega)).mpr q)]
      by_cases q2 : u i ≤ w
      · rw [if_pos (nI_le q2 (by omega))]
        rw [stay True (by omega)]
        cases bb with
        | true => exact ⟨(sa s 5 (upd (ga s 5) i (nI (u i))), 1), by simp only [if_true, if_neg (show ¬ b2i true = 0 by decide)], hst _, hold, rfl, i4⟩
        | false => exact ⟨(sa s 5 (upd (ga s 5) i (nI (u i))), 0), by simp only [if_true, if_pos (show b2i false = 0 from rfl)], hst _, hold, rfl, i4⟩
      · rw [if_neg (nI_ge (by omega) (by omega))]
        have e : lwF (mk a) w i (u, bb) = (fun j => if j = i then w else u j, true) := if_pos ⟨q, show w < u i by omega⟩
        have ok := lwF_ok (m := mk a) (w := w) (f := i) (p := (u, bb)) hw i4
        rw [e] at ok ⊢
        cases bb with
        | true => exact ⟨(sa s 5 (upd (ga s 5) i (nI w)), 1), by simp only [if_neg one_ne, if_neg (show ¬ b2i true = 0 by decide)], hst _, hnew w, rfl, ok⟩
        | false => exact ⟨(sa s 5 (upd (ga s 5) i (nI w)), 1), by simp only [if_neg one_ne, if_pos (show b2i false = 0 from rfl)], hst _, hnew w, rfl, ok⟩
    · rw [if_neg (fun h => q ((shr_bit (by omega)).mp h))]
      rw [stay True (fun h => q h.1)]
      cases bb with
      | true => exact ⟨(sa s 5 (upd (ga s 5) i (nI (u i))), 1), by simp only [if_true, if_neg (show ¬ b2i true = 0 by decide)], hst _, hold, rfl, i4⟩
      | false => exact ⟨(sa s 5 (upd (ga s 5) i (nI (u i))), 0), by simp only [if_true, if_pos (show b2i false = 0 from rfl)], hst _, hold, rfl, i4⟩)
  obtain ⟨⟨t', y'⟩, h1, h2, h3, h4, h5⟩ := this
  have h4 : y' = b2i _ := h4
  subst h4
  exact ⟨t', h1, h2, h3, h5⟩
/-- the flag and the values after some of a round's actions -/
def rdF (sm : Bool) (co : Nat → Nat) (nd mk : Nat → Int32) (a : Nat) (p : (Nat → Nat) × Bool) : (Nat → Nat) × Bool := lw (mk a) (vA sm co nd a p.1) p
theorem rdF_1 {sm : Bool} {co : Nat → Nat} {nd mk : Nat → Int32} (a : Nat) (p : (Nat → Nat) × Bool) : (rdF sm co nd mk a p).1 = stV sm co nd mk a p.1 := by
  obtain ⟨v, b⟩ := p
  exact lw_v _ _ _ _
theorem rd_1 {sm : Bool} {co : Nat → Nat} {nd mk : Nat → Int32} (c : Nat) (p : (Nat → Nat) × Bool) : (fo (rdF sm co nd mk) c p).1 = RV sm co nd mk c p.1 := by
  refine fo_rel (fun _ (x : (Nat → Nat) × Bool) y => x.1 = y) rfl ?_
  intro i x y _ h
  rw [rdF_1, h]
/-- the flag stays down just if nothing falls -/
theorem rd_2 {sm : Bool} {co : Nat → Nat} {nd mk : Nat → Int32} (c : Nat) (v : Nat → Nat) : (fo (rdF sm co nd mk) c (v, false)).2 = false ↔ RV sm co nd mk c v = v := by
  have h := fo_inv (g := rdF sm co nd mk) (fun k (p : (Nat → Nat) × Bool) => (∀ j, p.1 j ≤ v j) ∧ (p.2 = false → p.1 = v) ∧ (p.2 = true → ∃ j, p.1 j < v j)) (x := (v, false)) ⟨fun _ => Nat.le_refl _, fun _ => rfl, fun h => by cases h⟩ (c := c) (by
    rintro i ⟨u, b⟩ hi ⟨h1, h2, h3⟩
    have e1 : (rdF sm co nd mk i (u, b)).1 = lwV (mk i) (vA sm co nd i u) u := lw_v _ _ _ _
    have e2 : (rdF sm co nd mk i (u, b)).2 = true ↔ b = true ∨ ∃ j, j < 30 ∧ bt (mk i) j = true ∧ vA sm co nd i u < u j := lw_f _ _ _ _
    rw [e1]
    refine ⟨fun j => Nat.le_trans (lwV_le _ _ _ j) (h1 j), fun hf => ?_, fun ht => ?_⟩
    · have hno : ¬ (b = true ∨ ∃ j, j < 30 ∧ bt (mk i) j = true ∧ vA sm co nd i u < u j) := fun h => by rw [e2.mpr h] at hf; cases hf
      have hb : b = false := by
        cases b with
        | true => exact absurd (Or.inl rfl) hno
        | false => rfl
      have hu : u = v := h2 hb
      funext j
      unfold lwV
      rw [if_neg (fun h => hno (Or.inr ⟨j, h⟩)), hu]
    · rcases e2.mp ht with h | ⟨j, h⟩
      · obtain ⟨j, hj⟩ := h3 h
        exact ⟨j, Nat.lt_of_le_of_lt (lwV_le _ _ _ j) hj⟩
      · refine ⟨j, ?_⟩
        have : lwV (mk i) (vA sm co nd i u) u j = vA sm co nd i u := if_pos h
        have := h1 j
        have : (u, b).1 j = u j := rfl
        omega)
  have e := rd_1 (sm := sm) (co := co) (nd := nd) (mk := mk) c (v, false)
  constructor
  · intro hf
    rw [← e]; exact h.2.1 hf
  · intro hR
    cases hb : (fo (rdF sm co nd mk) c (v, false)).2 with
    | false => rfl
    | true =>
      obtain ⟨j, hj⟩ := h.2.2 hb
      rw [e] at hj
      have : RV sm co nd mk c v j = v j := congrFun hR j
      have : (v, false).1 = v := rfl
      rw [this] at hj
      omega
theorem round_M {τ : SC} {n c : Nat} {nd mk : Nat → Int32} {co : Nat → Nat} (hn : 100 < n) (h24 : c ≤ 24) (ht : TbM c nd mk τ) (hc : TcM c co τ) (hco : ∀ a, a < c → 1 ≤ co a ∧ co a ≤ CP) (sm : Bool) (K : SC → Int32 → Option SC) {v : Nat → Nat} {t : SC} (hS : ValS τ t) (hv : MV v t) (hok : Vok v) :
    ∃ t', LX12_values_46 n (b2i sm) K n t 0 0 = K t' (b2i (fo (rdF sm co nd mk) c (v, false)).2) ∧ ValS τ t' ∧ MV (RV sm co nd mk c v) t' := by
  have := loop_rel (L := fun f i (y : SC × Int32) => LX12_values_46 n (b2i sm) K f y.1 y.2 (nI i)) (K := fun y => K y.1 y.2) (g := rdF sm co nd mk) (c := c) (n := n) (x := (t, 0)) (y := (v, false)) (fun _ y z => ValS τ y.1 ∧ MV z.1 y.1 ∧ y.2 = b2i z.2 ∧ Vok z.1) (by omega) ⟨hS, hv, rfl, hok⟩ (by
    rintro f ⟨s, y3⟩ z ⟨i1, _⟩
    have i1 : ValS τ s := i1
    show ld _ _ _ _ = _
    rw [ld172, i1.2.1 0 (by decide), ht.1, if_pos (nI_le (Nat.le_refl c) (by omega))]) (by
    rintro f i ⟨s, y3⟩ ⟨u, bb⟩ hi ⟨i1, i2, i3, i4⟩
    have i1 : ValS τ s := i1
    have i3 : y3 = b2i bb := i3
    subst i3
    right
    have hT : TbM c nd mk s := ⟨by rw [i1.2.1 0 (by decide)]; exact ht.1, fun a ha => by rw [i1.2.1 0 (by decide)]; exact ht.2 a ha⟩
    have hC : TcM c co s := fun a ha => by rw [i1.2.1 0 (by decide)]; exact hc a ha
    show ∃ x', ld _ _ _ _ = _ ∧ _
    rw [ld172, hT.1, if_neg (nI_ge hi (by omega)), valueBy_M hn h24 hT hC hco i2 i4 sm hi, bd_e]
    obtain ⟨t', w1, w2, w3, w4⟩ := lower_M hn h24 ht hi (vA_le (sm := sm) (nd := nd) hco i4 hi) (fun σ20 w21 => lt (nI i + 1) (fun v22 => LX12_values_46 n (b2i sm) K f σ20 w21 v22)) (b := bb) i1 i2 i4
    rw [w1, lt_e, nI_p1]
    exact ⟨(t', _), rfl, w2, w3, rfl, w4⟩)
  obtain ⟨⟨t', y'⟩, h1, h2, h3, h4, h5⟩ := this
  have h4 : y' = b2i _ := h4
  subst h4
  refine ⟨t', h1, h2, ?_⟩
  rw [← rd_1 c (v, false)]
  exact h3
theorem values_M {τ : SC} {n c : Nat} {nd mk : Nat → Int32} {co : Nat → Nat} (hn : 1000 < n) (h24 : c ≤ 24) (ht : TbM c nd mk τ) (hc : TcM c co τ) (hco : ∀ a, a < c → 1 ≤ co a ∧ co a ≤ CP) (sm : Bool) (x : Int32) {T : Nat} (hT : T ≤ 30) (hfix : RV sm co nd mk c (VK sm co nd mk c (v0 x) T) = VK sm co nd mk c (v0 x) T) (hmin : ∀ k, k < T → RV sm co nd mk c (VK sm co nd mk c (v0 x) k) ≠ VK sm co nd mk c (v0 x) k) :
    ∃ t, f_X12_values n τ x (b2i sm) = some t ∧ ValS τ t ∧ MV (VK sm co nd mk c (v0 x) T) t := by
  have hok0 : Vok (v0 x) := fun f hf => by
    rcases v0_ok x f hf with h | h
    · exact Or.inl (by omega)
    · exact Or.inr h
  unfold f_X12_values
  have start := loop_rel (L := fun f i y => LX12_values_2 x (fun σ5 => LX12_values_37 n (b2i sm) (fun σ25 => some σ25) n σ5 1) f y (nI i)) (K := fun σ5 => LX12_values_37 n (b2i sm) (fun σ25 => some σ25) n σ5 1) (g := fun _ (z : Unit) => z) (c := 30) (n := n) (x := τ) (y := ()) (fun k y _ => ValS τ y ∧ ∀ f, f < k → ga y 5 f = nI (v0 x f)) (by omega) ⟨⟨fun _ => rfl, fun _ _ => rfl, fun _ => rfl⟩, fun f hf => by omega⟩ (fun f y z _ => if_pos (nI_le (Nat.le_refl 30) (by omega))) (by
    rintro f i s z hi ⟨i1, i2⟩
    right
    show ∃ x', (if (30 : Int32) ≤ nI i then _ else _) = _ ∧ _
    rw [if_neg (show ¬ (30 : Int32) ≤ nI i from nI_ge (b := 30) hi (by omega))]
    simp only [ck_n (i := nI i) i rfl hi (by omega), nI_clamp (show i < 2 ^ 31 by omega), lt_e, nI_p1]
    have hst : ∀ z : Int32, ValS τ (sa s 5 (upd (ga s 5) i z)) := fun z => ⟨fun k => i1.1 k, fun k hk => by rw [ga_sa, if_neg hk, i1.2.1 k hk], fun j => i1.2.2 j⟩
    have hnew : ∀ f, f < i + 1 → ga (sa s 5 (upd (ga s 5) i (nI (v0 x i)))) 5 f = nI (v0 x f) := by
      intro f hf
      rw [ga_sa, if_pos rfl, ud_s]
      by_cases e : f = i
      · rw [if_pos e, e]
      · rw [if_neg e, i2 f (by omega)]
    by_cases q : bt x i = true
    · rw [if_pos ((shr_bit (by omega)).mpr q)]
      have e : v0 x i = 0 := if_pos ⟨hi, q⟩
      rw [e] at hnew
      exact ⟨_, rfl, hst _, hnew⟩
    · rw [if_neg (fun h => q ((shr_bit (by omega)).mp h))]
      have e : v0 x i = FR := if_neg (fun h => q h.2)
      rw [e] at hnew
      exact ⟨_, rfl, hst _, hnew⟩)
  obtain ⟨t0, s1, s2, s3⟩ := start
  rw [show LX12_values_2 x (fun σ5 => LX12_values_37 n (b2i sm) (fun σ25 => some σ25) n σ5 1) n τ 0 = LX12_values_37 n (b2i sm) (fun σ25 => some σ25) n t0 1 from s1]
  have key : ∀ (d f k : Nat) (s : SC), k + d = T → d + 1 < f → ValS τ s → MV (VK sm co nd mk c (v0 x) k) s → ∃ t, LX12_values_37 n (b2i sm) (fun σ25 => some σ25) f s 1 = some t ∧ ValS τ t ∧ MV (VK sm co nd mk c (v0 x) T) t := by
    intro d
    induction d with
    | zero =>
      intro f k s hk hf hS hv
      obtain ⟨f, rfl⟩ : ∃ f', f = f' + 1 := ⟨f - 1, by omega⟩
      obtain ⟨f, rfl⟩ : ∃ f', f = f' + 1 := ⟨f - 1, by omega⟩
      have e : k = T := by omega
      subst e
      rw [LX12_values_37, if_neg one_ne]
      obtain ⟨t', w1, w2, w3⟩ := round_M (show 100 < n by omega) h24 ht hc hco sm (fun σ23 w24 => LX12_values_37 n (b2i sm) (fun σ25 => some σ25) (f + 1) σ23 w24) hS hv (VK_ok (nd := nd) (mk := mk) (sm := sm) hco hok0 k)
      rw [w1, (rd_2 c _).mpr hfix, LX12_values_37, if_pos (show b2i false = 0 from rfl)]
      rw [hfix] at w3
      exact ⟨t', rfl, w2, w3⟩
    | succ d ih =>
      intro f k s hk hf hS hv
      obtain ⟨f, rfl⟩ : ∃ f', f = f' + 1 := ⟨f - 1, by omega⟩
      rw [LX12_values_37, if_neg one_ne]
      obtain ⟨t', w1, w2, w3⟩ := round_M (show 100 < n by omega) h24 ht hc hco sm (fun σ23 w24 => LX12_values_37 n (b2i sm) (fun σ25 => some σ25) f σ23 w24) hS hv (VK_ok (nd := nd) (mk := mk) (sm := sm) hco hok0 k)
      have hb : (fo (rdF sm co nd mk) c (VK sm co nd mk c (v0 x) k, false)).2 = true := by
        cases hb : (fo (rdF sm co nd mk) c (VK sm co nd mk c (v0 x) k, false)).2 with
        | true => rfl
        | false => exact absurd ((rd_2 c _).mp hb) (hmin k (by omega))
      rw [w1, hb]
      exact ih f (k + 1) t' (by omega) (by omega) w2 w3
  exact key T n 0 t0 (by omega) (by omega) s2 (fun f hf => s3 f hf)
