/-! REACHED: the reference, and the calls reached, state, numberOf, excluded -/
def RMt (s : SC) (xs : List Int32) : Prop := gi s 8 = nI xs.length ∧ xs.length ≤ 300 ∧ ∀ k, k < xs.length → ga s 8 k = xs.getD k 0
def NXt (c : Nat) (nd mk ud : Nat → Int32) (s : SC) (xs : List Int32) (K A : Nat) : Prop :=
  ∀ k a, (k < K ∨ (k = K ∧ a < A)) → a < c → ∃ k', k' < xs.length ∧ ga s 11 (24 * k + a) = nI k' ∧ xs.getD k' 0 = (if sub (nd a) (xs.getD k 0) then aft (ud a) (mk a) (xs.getD k 0) else xs.getD k 0)
theorem sm8 {τ s : SC} (f : Nat → Int32) (h : SameM τ s) : SameM τ (sa s 8 f) := by
  refine ⟨h.1, fun a ha => ?_, h.2.2⟩
  rw [ga_sa, if_neg (by simp only [List.mem_cons, List.not_mem_nil, or_false] at ha; omega)]; exact h.2.1 a ha
theorem sm11 {τ s : SC} (f : Nat → Int32) (h : SameM τ s) : SameM τ (sa s 11 f) := by
  refine ⟨h.1, fun a ha => ?_, h.2.2⟩
  rw [ga_sa, if_neg (by simp only [List.mem_cons, List.not_mem_nil, or_false] at ha; omega)]; exact h.2.1 a ha
theorem smi {τ s : SC} {k : Nat} (v : Int32) (hk : k ∉ [1, 5, 12]) (h : SameM τ s) : SameM τ (si s k v) := by
  refine ⟨fun q hq => ?_, h.2⟩
  have ne : q ≠ k := fun e => hk (by rw [← e]; exact hq)
  rw [gi_si, if_neg ne]; exact h.1 q hq
theorem place_M {n : Nat} {s : SC} {xs : List Int32} (hn : 1000000 ≤ n) (h : RMt s xs) (y : Int32) : (∃ k, k < xs.length ∧ xs.getD k 0 = y ∧ f_X12_placeOf n s y = some (nI k)) ∨ (y ∉ xs ∧ f_X12_placeOf n s y = some (-1)) := by
  obtain ⟨h8, hl, hx⟩ := h
  unfold f_X12_placeOf
  have key : ∀ (d f i : Nat), i + d = xs.length → d < f → (∀ k, k < i → xs.getD k 0 ≠ y) → (∃ k, k < xs.length ∧ xs.getD k 0 = y ∧ LX12_placeOf_2 s y (fun _ => some (-1)) f (nI i) = some (nI k)) ∨ (y ∉ xs ∧ LX12_placeOf_2 s y (fun _ => some (-1)) f (nI i) = some (-1)) := by
    intro d
    induction d with
    | zero =>
      intro f i hi hf hb
      obtain ⟨f, rfl⟩ : ∃ f', f = f' + 1 := ⟨f - 1, by omega⟩
      rw [LX12_placeOf_2, h8, if_pos (nI_le (by omega) (by omega))]
      refine Or.inr ⟨fun hy => ?_, rfl⟩
      obtain ⟨k, hk, e⟩ := mem_gd hy
      exact hb k (by omega) e
    | succ d ih =>
      intro f i hi hf hb
      obtain ⟨f, rfl⟩ : ∃ f', f = f' + 1 := ⟨f - 1, by omega⟩
      rw [LX12_placeOf_2, h8, if_neg (nI_ge (by omega) (by omega)), ld_n i rfl (by omega) (by omega), hx i (by omega)]
      by_cases q : xs.getD i 0 = y
      · rw [if_pos q]; exact Or.inl ⟨i, by omega, q, rfl⟩
      · rw [if_neg q, lt_e, nI_p1]
        refine ih f (i + 1) (by omega) (by omega) (fun k hk => ?_)
        rcases Nat.lt_or_ge k i with w | w
        · exact hb k w
        · rw [show k = i by omega]; exact q
  exact key xs.length n 0 (by omega) (by omega) (fun k hk => absurd hk (by omega))
def TM (c : Nat) (nd mk ud : Nat → Int32) (τ : SC) : Prop := ga τ 0 172 = nI c ∧ c ≤ 24 ∧ ∀ a, a < c → ga τ 0 a = nd a ∧ ga τ 0 (24 + a) = mk a ∧ ga τ 0 (48 + a) = ud a
theorem NXt_grow {c : Nat} {nd mk ud : Nat → Int32} {s s' : SC} {xs ys : List Int32} {K A k' : Nat} (h : NXt c nd mk ud s xs K A) (hp : Pre xs ys) (hK : K < xs.length) (hA : A < c) (h24 : c ≤ 24) (e : ga s' 11 = upd (ga s 11) (24 * K + A) (nI k')) (hk' : k' < ys.length)
    (hv : ys.getD k' 0 = (if sub (nd A) (xs.getD K 0) then aft (ud A) (mk A) (xs.getD K 0) else xs.getD K 0)) : NXt c nd mk ud s' ys K (A + 1) := by
  intro k a hka ha
  rw [e, ud_s]
  by_cases q : k = K ∧ a = A
  · obtain ⟨rfl, rfl⟩ := q
    rw [if_pos rfl, hp.2 k hK]
    exact ⟨k', hk', rfl, hv⟩
  · rw [if_neg (by omega)]
    obtain ⟨k2, p1, p2, p3⟩ := h k a (by omega) ha
    refine ⟨k2, Nat.lt_of_lt_of_le p1 hp.1, p2, ?_⟩
    rw [hp.2 k2 p1, hp.2 k (by omega)]; exact p3
theorem row_M {n c K0 : Nat} {nd mk ud : Nat → Int32} {τ : SC} {xs0 : List Int32} (hn : 1000000 ≤ n) (hT : TM c nd mk ud τ) (hK : K0 < xs0.length) (K : SC → Option (Int32 × SC)) :
    ∀ (d f i : Nat) (s : SC) (xs : List Int32), i + d = c → d < f → SameM τ s → RMt s xs → Pre xs0 xs → NXt c nd mk ud s xs K0 i →
    (itf (rG nd mk ud (xs0.getD K0 0)) i d (some xs) = none ∧ ∃ s', LX12_goesOn_31 n (nI K0) K f s (nI i) = some (0, s') ∧ SameM τ s') ∨
    (∃ ys s', itf (rG nd mk ud (xs0.getD K0 0)) i d (some xs) = some ys ∧ LX12_goesOn_31 n (nI K0) K f s (nI i) = K s' ∧ SameM τ s' ∧ RMt s' ys ∧ NXt c nd mk ud s' ys K0 c ∧ Pre xs0 ys) := by
  obtain ⟨h172, h24, htab⟩ := hT
  intro d
  induction d with
  | zero =>
    intro f i s xs hi hf hs hR hp hx
    obtain ⟨f, rfl⟩ : ∃ f', f = f' + 1 := ⟨f - 1, by omega⟩
    have e : i = c := by omega
    subst e
    refine Or.inr ⟨xs, s, rfl, ?_, hs, hR, hx, hp⟩
    rw [LX12_goesOn_31, ld172, hs.2.1 0 (by decide), h172, if_pos (nI_le (Nat.le_refl i) (by omega))]
  | succ d ih =>
    intro f i s xs hi hf hs hR hp hx
    obtain ⟨f, rfl⟩ : ∃ f', f = f' + 1 := ⟨f - 1, by omega⟩
    have hR' := hR
    obtain ⟨g8, gl8, gx⟩ := hR'
    obtain ⟨t1, t2, t3⟩ := htab i (by omega)
    have hpl := hp.1
    have hxk : ga s 8 K0 = xs0.getD K0 0 := by rw [gx K0 (by omega), hp.2 K0 hK]
    obtain ⟨z, hz⟩ : ∃ z, z = (if sub (nd i) (xs0.getD K0 0) then aft (ud i) (mk i) (xs0.getD K0 0) else xs0.getD K0 0) := ⟨_, rfl⟩
    have e24 : (24 : Int32) * nI K0 + nI i = nI (24 * K0 + i) := by rw [show (24 : Int32) = nI 24 from rfl, pk_mul, nI_add]
    have e0 : LX12_goesOn_31 n (nI K0) K (f + 1) s (nI i) = bd (f_X12_placeOf n s z) (fun v11 => if v11 = (-1) then if nI xs.length = 300 then some (0, s) else LX12_goesOn_31 n (nI K0) K f (sa (si (sa s 8 (upd (ga s 8) xs.length z)) 8 (nI (xs.length + 1))) 11 (upd (ga s 11) (24 * K0 + i) (nI xs.length))) (nI (i + 1)) else LX12_goesOn_31 n (nI K0) K f (sa s 11 (upd (ga s 11) (24 * K0 + i) v11)) (nI (i + 1))) := by
      rw [LX12_goesOn_31]
      simp only [jn_e, lt_e]
      rw [ld172, hs.2.1 0 (by decide), h172, if_neg (nI_ge (by omega) (by omega)), ld_n K0 rfl (by omega) (by omega), mayBe_M (by omega), bd_e, ld_n K0 rfl (by omega) (by omega), ld_n K0 rfl (by omega) (by omega), behind_M (by omega), bd_e, hs.2.1 0 (by decide), t1, t2, t3, hxk]
      have fin : ∀ z, bd (f_X12_placeOf n s z) (fun v11 => if v11 = (-1) then if gi s 8 = 300 then some (0, s) else ck 300 (gi s 8) (ck 7200 (24 * nI K0 + nI i) (LX12_goesOn_31 n (nI K0) K f (sa (si (sa s 8 (upd (ga s 8) (gi s 8).toNatClampNeg z)) 8 (gi (sa s 8 (upd (ga s 8) (gi s 8).toNatClampNeg z)) 8 + 1)) 11 (upd (ga (si (sa s 8 (upd (ga s 8) (gi s 8).toNatClampNeg z)) 8 (gi (sa s 8 (upd (ga s 8) (gi s 8).toNatClampNeg z)) 8 + 1)) 11) (24 * nI K0 + nI i).toNatClampNeg (gi s 8))) (nI i + 1))) else ck 7200 (24 * nI K0 + nI i) (LX12_goesOn_31 n (nI K0) K f (sa s 11 (upd (ga s 11) (24 * nI K0 + nI i).toNatClampNeg v11)) (nI i + 1))) =
          bd (f_X12_placeOf n s z) (fun v11 => if v11 = (-1) then if nI xs.length = 300 then some (0, s) else LX12_goesOn_31 n (nI K0) K f (sa (si (sa s 8 (upd (ga s 8) xs.length z)) 8 (nI (xs.length + 1))) 11 (upd (ga s 11) (24 * K0 + i) (nI xs.length))) (nI (i + 1)) else LX12_goesOn_31 n (nI K0) K f (sa s 11 (upd (ga s 11) (24 * K0 + i) v11)) (nI (i + 1))) := by
        intro z
        congr 1
        funext v
        rw [e24, ck_n (24 * K0 + i) rfl (by omega) (by omega), ck_n (24 * K0 + i) rfl (by omega) (by omega), nI_clamp (show 24 * K0 + i < 2 ^ 31 by omega), nI_p1]
        by_cases q : nI xs.length = 300
        · rw [g8, if_pos q, if_pos q]
        · have hlt : xs.length < 300 := by
            rcases Nat.lt_or_ge xs.length 300 with w | w
            · exact w
            · exact absurd (congrArg nI (show xs.length = 300 by omega)) q
          have : gi (sa s 8 (upd (ga s 8) (gi s 8).toNatClampNeg z)) 8 = nI xs.length := g8
          rw [this, g8, if_neg q, if_neg q, ck_n xs.length rfl hlt (by omega), nI_clamp (by omega), nI_p1]
          rfl
      by_cases w : sub (nd i) (xs0.getD K0 0)
      · rw [if_pos w, if_neg one_ne, hz, if_pos w]; exact fin _
      · rw [if_neg w, if_pos rfl, hz, if_neg w]; exact fin _
    rcases place_M hn hR z with ⟨k', hk', ek, ep⟩ | ⟨hnot, ep⟩
    · rw [ep, bd_e, if_neg (nI_nm1 (by omega))] at e0
      rw [e0]
      have er : rG nd mk ud (xs0.getD K0 0) i (some xs) = some xs := by
        show (if sub (nd i) (xs0.getD K0 0) then addS xs (aft (ud i) (mk i) (xs0.getD K0 0)) else some xs) = _
        by_cases w : sub (nd i) (xs0.getD K0 0)
        · rw [if_pos w]
          rw [if_pos w] at hz
          unfold addS
          rw [if_pos (by rw [← hz, ← ek]; exact gd_mem hk')]
        · rw [if_neg w]
      rw [show itf (rG nd mk ud (xs0.getD K0 0)) i (d + 1) (some xs) = itf (rG nd mk ud (xs0.getD K0 0)) (i + 1) d (some xs) by show itf _ (i + 1) d (rG nd mk ud (xs0.getD K0 0) i (some xs)) = _; rw [er]]
      refine ih f (i + 1) _ xs (by omega) (by omega) (sm11 _ hs) hR hp ?_
      exact NXt_grow hx (Pre.rf xs) (by omega) (by omega) h24 rfl hk' (by rw [hp.2 K0 hK, ek, hz])
    · rw [ep, bd_e, if_pos rfl] at e0
      rw [e0]
      have hw : sub (nd i) (xs0.getD K0 0) := by
        apply Classical.byContradiction
        intro w
        rw [if_neg w] at hz
        exact hnot (by rw [hz, ← hp.2 K0 hK]; exact gd_mem (by omega))
      rw [if_pos hw] at hz
      have er : rG nd mk ud (xs0.getD K0 0) i (some xs) = addS xs z := by
        show (if sub (nd i) (xs0.getD K0 0) then addS xs (aft (ud i) (mk i) (xs0.getD K0 0)) else some xs) = _
        rw [if_pos hw, hz]
      have ei : itf (rG nd mk ud (xs0.getD K0 0)) i (d + 1) (some xs) = itf (rG nd mk ud (xs0.getD K0 0)) (i + 1) d (addS xs z) := by
        show itf _ (i + 1) d (rG nd mk ud (xs0.getD K0 0) i (some xs)) = _; rw [er]
      rw [ei]
      rcases addS_c xs z with ⟨p1, _⟩ | ⟨_, p2, p3⟩ | ⟨_, p2, p3⟩
      · exact absurd p1 hnot
      · rw [p3, if_neg (fun q => by have := (nI_eq (a := xs.length) (b := 300) (by omega) (by omega)).mp q; omega)]
        refine ih f (i + 1) _ (xs ++ [z]) (by omega) (by omega) (sm11 _ (smi _ (by decide) (sm8 _ hs))) ?_ (hp.tr (Pre_a xs z)) ?_
        · refine ⟨by rw [ln_a]; rfl, by rw [ln_a]; omega, fun k hk => ?_⟩
          rw [ln_a] at hk
          show upd (ga s 8) xs.length z k = _
          rw [ud_s]
          rcases Nat.lt_or_ge k xs.length with l | l
          · rw [if_neg (by omega), gd_l xs z l]; exact gx k l
          · rw [show k = xs.length by omega, if_pos rfl, gd_r]
        · exact NXt_grow hx (Pre_a xs z) (by omega) (by omega) h24 rfl (by rw [ln_a]; omega) (by rw [gd_r, hp.2 K0 hK, if_pos hw]; exact hz)
      · rw [p3, if_pos (show nI xs.length = 300 from congrArg nI (show xs.length = 300 by omega)), itf_id d (i + 1) (fun j _ _ => rG_none j)]
        exact Or.inl ⟨rfl, s, rfl, hs⟩
theorem bfs_M {n c : Nat} {nd mk ud : Nat → Int32} {start : Int32} {τ : SC} (hn : 1000000 ≤ n) (hT : TM c nd mk ud τ) : ∀ (f k fM : Nat) (xs : List Int32) (s : SC), k + f = 301 → f < fM → k ≤ xs.length → SameM τ s → RMt s xs → NXt c nd mk ud s xs k 0 → BR c nd mk ud start k 0 xs →
    (bfs c nd mk ud f k xs = none ∧ ∃ s', LX12_goesOn_21 n (fun σ26 => some (1, σ26)) fM s (nI k) = some (0, s') ∧ SameM τ s') ∨
    (∃ ys s', bfs c nd mk ud f k xs = some ys ∧ LX12_goesOn_21 n (fun σ26 => some (1, σ26)) fM s (nI k) = some (1, s') ∧ SameM τ s' ∧ RMt s' ys ∧ NXt c nd mk ud s' ys ys.length 0) := by
  intro f
  induction f with
  | zero => intro k fM xs s h1 h2 h3 hs h hx hb; have := hb.2.1; omega
  | succ f ih =>
    intro k fM xs s h1 h2 h3 hs h hx hb
    obtain ⟨fM, rfl⟩ : ∃ f', fM = f' + 1 := ⟨fM - 1, by omega⟩
    have hl := h.2.1
    have h24 := hT.2.1
    rw [LX12_goesOn_21, h.1, bfs]
    by_cases q : k < xs.length
    · rw [if_pos q, if_neg (nI_ge q (by omega))]
      rcases row_M hn hT q (fun σ24 => lt (nI k + 1) (fun v25 => LX12_goesOn_21 n (fun σ26 => some (1, σ26)) fM σ24 v25)) c n 0 s xs (by omega) (by omega) hs h (Pre.rf xs) hx with ⟨e1, s', e2, p⟩ | ⟨ys, s', e1, e2, p1, p2, p3, p4⟩
      · have e1 : rowS c nd mk ud (xs.getD k 0) xs = none := e1
        rw [e1]
        exact Or.inl ⟨rfl, s', e2, p⟩
      · have er : rowS c nd mk ud (xs.getD k 0) xs = some ys := e1
        have e2 : LX12_goesOn_31 n (nI k) (fun σ24 => lt (nI k + 1) (fun v25 => LX12_goesOn_21 n (fun σ26 => some (1, σ26)) fM σ24 v25)) n s 0 = lt (nI k + 1) (fun v25 => LX12_goesOn_21 n (fun σ26 => some (1, σ26)) fM s' v25) := e2
        rw [er, e2, lt_e, nI_p1]
        obtain ⟨b, hp⟩ := BR_row hb q er
        exact ih (k + 1) fM ys s' (by omega) (by omega) (by have := hp.1; omega) p1 p2 (fun k2 a hka ha => p3 k2 a (by omega) ha) b
    · rw [if_neg q, if_pos (nI_le (a := xs.length) (b := k) (by omega) (by omega))]
      rw [show k = xs.length by omega] at hx
      exact Or.inr ⟨xs, s, rfl, rfl, hs, h, hx⟩
theorem RelC.TM {c : Nat} {σ τ : SC} (h : RelC c σ τ) : TM c (ga σ 0) (ga σ 1) (ga σ 2) τ :=
  ⟨h.1.2.2.1, h.1.1, fun a ha => ⟨(h.2.1 a ha).1, (h.2.1 a ha).2.1, (h.2.1 a ha).2.2.1⟩⟩
theorem goes_M {n c : Nat} {σ τ : SC} (hn : 1000000 ≤ n) (h : RelC c σ τ) :
    (reachS c (ga σ 0) (ga σ 1) (ga σ 2) (gi σ 1) = none ∧ ∃ s, f_X12_goesOn n τ = some (0, s) ∧ SameM τ s) ∨
    (∃ xs s, reachS c (ga σ 0) (ga σ 1) (ga σ 2) (gi σ 1) = some xs ∧ f_X12_goesOn n τ = some (1, s) ∧ SameM τ s ∧ RMt s xs ∧ NXt c (ga σ 0) (ga σ 1) (ga σ 2) s xs xs.length 0) := by
  unfold f_X12_goesOn reachS
  rw [ld_n (i := 168) 168 rfl (by omega) (by omega), ck_n (i := 0) 0 rfl (by omega) (by omega), lt_e, lt_e, ← h.1.2.2.2.1]
  exact bfs_M hn h.TM 301 0 n [gi σ 1] (si (sa τ 8 (upd (ga τ 8) (0 : Int32).toNatClampNeg (gi σ 1))) 8 1) (by omega) (by omega) (by simp) (smi _ (by decide) (sm8 _ (SameM.rf τ)))
    ⟨rfl, by simp, fun k hk => by simp at hk; subst hk; rfl⟩ (fun k a hka ha => by omega) (BR_start _ _ _ _ _)
/-- both sides have gone through what is reached -/
theorem both_ok {n c : Nat} {σ τ : SC} (hn : 1000000 ≤ n) (h : RelC c σ τ) : ∃ s t, RelC c s t ∧ gi s 16 = 1 ∧
    ((f_X11_isTooMany n σ = some (1, s) ∧ f_X12_goesOn n τ = some (0, t) ∧ reachS c (ga s 0) (ga s 1) (ga s 2) (gi s 1) = none ∧ gi s 15 = 1) ∨
    (f_X11_isTooMany n σ = some (0, s) ∧ f_X12_goesOn n τ = some (1, t) ∧ ∃ xs, reachS c (ga s 0) (ga s 1) (ga s 2) (gi s 1) = some xs ∧ gi s 15 = 0 ∧ gi s 14 = nI xs.length ∧ ST s xs ∧ HashP (ga s 11) xs ∧ RMt t xs ∧ NXt c (ga s 0) (ga s 1) (ga s 2) t xs xs.length 0 ∧ BR c (ga s 0) (ga s 1) (ga s 2) (gi s 1) xs.length 0 xs)) := by
  unfold f_X11_isTooMany
  obtain ⟨s, e, hr, h16, hP, hs⟩ := explore_ok hn h
  rw [e, bd_e]
  rcases goes_M hn hr with ⟨g1, t, g2, g3⟩ | ⟨xs, t, g1, g2, g3, g4, g5⟩
  · unfold ReachP at hP
    rw [g1] at hP
    have hP : gi s 15 = 1 := hP
    rw [hP, zb_1]
    exact ⟨s, t, hr.sameM g3, h16, Or.inl ⟨rfl, g2, g1, hP⟩⟩
  · unfold ReachP at hP
    rw [g1] at hP
    obtain ⟨p1, p2, p3, p4⟩ := hP
    rw [p1, zb_0]
    exact ⟨s, t, hr.sameM g3, h16, Or.inr ⟨rfl, g2, xs, g1, p1, p2, p3, p4, g4, g5, BR_reach g1⟩⟩
theorem ag_reached_ok {n : Nat} (hn : 1000000 ≤ n) : ag_reached n Rel := by
  rintro σ τ ⟨c, h⟩
  unfold f_X11_reached f_X12_reached
  obtain ⟨s, t, hr, _, hb⟩ := both_ok hn h
  rcases hb with ⟨e1, e2, _, _⟩ | ⟨e1, e2, xs, _, h15, h14, _, _, hR, _, _⟩
  · rw [e1, e2, bd2_e, bd2_e, if_neg one_ne, if_pos rfl]; exact ⟨_, _, _, rfl, rfl, c, hr⟩
  · rw [e1, e2, bd2_e, bd2_e, if_pos rfl, if_neg one_ne, h14, hR.1]; exact ⟨_, _, _, rfl, rfl, c, hr⟩
theorem ag_state_ok {n : Nat} (hn : 1000000 ≤ n) : ag_state n Rel := by
  rintro σ τ a1 ⟨c, h⟩
  unfold f_X11_state f_X12_state
  obtain ⟨s, t, hr, _, hb⟩ := both_ok hn h
  rcases hb with ⟨e1, e2, _, _⟩ | ⟨e1, e2, xs, _, h15, h14, hS, _, hR, _, _⟩
  · rw [e1, e2, bd2_e, bd2_e, if_neg one_ne, if_pos rfl, RC4, RM4]; exact ⟨_, _, _, rfl, rfl, c, hr.ref 4⟩
  · have hl := hR.2.1
    rw [e1, e2, bd2_e, bd2_e, if_pos rfl, if_neg one_ne, hR.1]
    unfold f_X6_hasNumber
    rw [h14]
    rcases Classical.em (inR a1 xs.length) with q | q
    · have q2 := (inR_iff (by omega)).mp q
      rw [if_neg q2.1, if_neg q2.2, if_neg one_ne, in_1 (by omega) q, if_neg one_ne]
      obtain ⟨k, hk, rfl⟩ := q
      rw [ld_n k rfl (by omega) (by omega), ld_n k rfl (by omega) (by omega), hS k hk, hR.2.2 k hk]
      exact ⟨_, _, _, rfl, rfl, c, hr⟩
    · rw [in_0 (by omega) q, if_pos rfl, RM4]
      have : (if a1 < 0 then (0 : Int32) else if nI xs.length ≤ a1 then 0 else 1) = 0 := by
        by_cases w : a1 < 0
        · rw [if_pos w]
        · rw [if_neg w]
          by_cases w2 : nI xs.length ≤ a1
          · rw [if_pos w2]
          · exact absurd ((inR_iff (by omega)).mpr ⟨w, w2⟩) q
      rw [this, if_pos rfl, RC4]
      exact ⟨_, _, _, rfl, rfl, c, hr.ref 4⟩
theorem ag_numberOf_ok {n : Nat} (hn : 1000000 ≤ n) : ag_numberOf n Rel := by
  rintro σ τ a1 ⟨c, h⟩
  unfold f_X11_numberOf f_X12_numberOf
  obtain ⟨s, t, hr, _, hb⟩ := both_ok hn h
  rcases hb with ⟨e1, e2, _, _⟩ | ⟨e1, e2, xs, _, h15, h14, hS, hH, hR, _, hB⟩
  · rw [e1, e2, bd2_e, bd2_e, if_neg one_ne, if_pos rfl, RS4, RB4]; exact ⟨_, _, _, rfl, rfl, c, hr.ref 4⟩
  · have hl := hR.2.1
    rw [e1, e2, bd2_e, bd2_e, if_pos rfl, if_neg one_ne]
    rcases set_c a1 with ⟨_, q1, q2⟩ | ⟨q1, q2⟩
    · rw [q1, q2, if_neg one_ne, if_neg one_ne]
      unfold f_X6_find
      obtain ⟨k, ht, e3, hc⟩ := slot_ok hn a1 hS hl hB.2.2.1 hH
      rw [e3, bd_e, ld_n ((hsh a1 + k) % 1024) rfl (by omega) (by omega), bd_e]
      rcases place_M hn hR a1 with ⟨k2, hk2, ek, ep⟩ | ⟨hnot, ep⟩
      · rcases hc with ⟨k1, hk1, ek1, z⟩ | ⟨hno, _⟩
        · have : k1 = k2 := hB.2.2.1 k1 k2 hk1 hk2 (ek1.trans ek.symm)
          subst this
          rw [z, nI_pred, ep, bd_e]
          exact ⟨_, _, _, rfl, rfl, c, hr⟩
        · exact absurd (ek ▸ gd_mem hk2) hno
      · rcases hc with ⟨k1, hk1, ek1, z⟩ | ⟨hno, z, _⟩
        · exact absurd (ek1 ▸ gd_mem hk1) hnot
        · rw [z, ep, bd_e]
          exact ⟨_, _, _, rfl, rfl, c, hr⟩
    · rw [q1, q2, if_pos rfl, if_pos rfl, RS5, RB5]; exact ⟨_, _, _, rfl, rfl, c, hr.ref 5⟩
theorem ag_excluded_ok {n : Nat} (hn : 1000000 ≤ n) : ag_excluded n Rel := by
  rintro σ τ a1 ⟨c, h⟩
  unfold f_X11_excluded f_X12_excluded
  rcases fact_c a1 with ⟨f, hf, rfl, q1, q2⟩ | ⟨q1, q2⟩
  · rw [q1, q2, if_neg one_ne, if_neg one_ne]
    obtain ⟨s, t, hr, _, hb⟩ := both_ok hn h
    rcases hb with ⟨e1, e2, _, _⟩ | ⟨e1, e2, xs, _, h15, h14, hS, hH, hR, _, hB⟩
    · rw [e1, e2, bd2_e, bd2_e, if_neg one_ne, if_pos rfl, RC4, RM4]; exact ⟨_, _, _, rfl, rfl, c, hr.ref 4⟩
    · have hl := hR.2.1
      rw [e1, e2, bd2_e, bd2_e, if_pos rfl, if_neg one_ne]
      unfold f_X6_everWith
      have b1 := loop_fo (L := fun f' i (x : Int32) => LX6_everWith_4 s (1 <<< (nI f &&& 31)) (fun w6 => some w6) f' x (nI i)) (K := fun x => some x) (g := fun i x => if bt (xs.getD i 0) f = true then x ||| xs.getD i 0 else x) (c := xs.length) (n := n) (x := 0) (fun _ _ => True) (by omega) trivial ?_ ?_
      · have b2 := loop_fo (L := fun f' i (x : Int32) => LX12_excluded_31 t (nI f) (fun w10 => some ((1073741823 &&& (w10 ^^^ (-1))), t)) f' x (nI i)) (K := fun w10 => some ((1073741823 &&& (w10 ^^^ (-1))), t)) (g := fun i x => if bt (xs.getD i 0) f = true then x ||| xs.getD i 0 else x) (c := xs.length) (n := n) (x := 0) (fun _ _ => True) (by omega) trivial ?_ ?_
        · rw [show LX6_everWith_4 s (1 <<< (nI f &&& 31)) (fun w6 => some w6) n 0 0 = _ from b1.1, bd_e, show LX12_excluded_31 t (nI f) (fun w10 => some ((1073741823 &&& (w10 ^^^ (-1))), t)) n 0 0 = _ from b2.1]
          exact ⟨_, _, _, rfl, rfl, c, hr⟩
        · intro f' x _
          show LX12_excluded_31 t (nI f) _ (f' + 1) x (nI xs.length) = _
          rw [LX12_excluded_31, hR.1, if_pos (nI_le (Nat.le_refl _) (by omega))]
        · intro f' i x hi _
          refine ⟨?_, trivial⟩
          show LX12_excluded_31 t (nI f) _ (f' + 1) x (nI i) = LX12_excluded_31 t (nI f) _ f' _ (nI (i + 1))
          rw [LX12_excluded_31, hR.1, if_neg (nI_ge hi (by omega)), ld_n i rfl (by omega) (by omega), ld_n i rfl (by omega) (by omega), hR.2.2 i hi, lt_e, lt_e, lt_e, lt_e, nI_p1, Int32.or_zero]
          by_cases q : bt (xs.getD i 0) f = true
          · rw [if_pos q, if_pos ((shr_bit (by omega)).mpr q)]
          · rw [if_neg q, if_neg (fun w => q ((shr_bit (by omega)).mp w))]
      · intro f' x _
        show LX6_everWith_4 s _ (fun w6 => some w6) (f' + 1) x (nI xs.length) = _
        rw [LX6_everWith_4, h14, if_pos (nI_le (Nat.le_refl _) (by omega))]
      · intro f' i x hi _
        refine ⟨?_, trivial⟩
        show LX6_everWith_4 s _ (fun w6 => some w6) (f' + 1) x (nI i) = LX6_everWith_4 s _ (fun w6 => some w6) f' _ (nI (i + 1))
        rw [LX6_everWith_4, h14, if_neg (nI_ge hi (by omega)), ld_n i rfl (by omega) (by omega), ld_n i rfl (by omega) (by omega), hS i hi, lt_e, lt_e, lt_e, nI_p1]
        by_cases q : bt (xs.getD i 0) f = true
        · rw [if_pos q, if_pos (show (1 <<< (nI f &&& 31) &&& (xs.getD i 0 ^^^ (-1))) = 0 from (sub_pw (x := xs.getD i 0) (f := f) (by omega)).mpr q)]
        · rw [if_neg q, if_neg (show ¬ (1 <<< (nI f &&& 31) &&& (xs.getD i 0 ^^^ (-1))) = 0 from fun w => q ((sub_pw (x := xs.getD i 0) (f := f) (by omega)).mp w))]
  · rw [q1, q2, if_pos rfl, if_pos rfl, RC0, RM0]; exact ⟨_, _, _, rfl, rfl, c, h.ref 0⟩
