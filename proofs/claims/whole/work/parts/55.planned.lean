/-! PLANNED: the two best plans are one -/
theorem RG_of {c : Nat} {s t : SC} {xs : List Int32} (h : RelC c s t) (hx : SX c s xs) (hR : RMt t xs) (hN : NXt c (ga s 0) (ga s 1) (ga s 2) t xs xs.length 0) :
    ∃ nx : Nat → Nat → Nat, RG c xs.length nx (cn (ga s 3)) t ∧ (∀ k a, k < xs.length → a < c → Ex c s xs k a (nx k a) ∨ nx k a = k) ∧ ∀ k a k', Ex c s xs k a k' → nx k a = k' := by
  have hS := hx.2.2.1
  have hB := hx.2.2.2.2.1
  have sk : ∀ k, ∃ g : Nat → Nat, ∀ a, k < xs.length → a < c → g a < xs.length ∧ ga t 11 (24 * k + a) = nI (g a) ∧ xs.getD (g a) 0 = (if sub (ga s 0 a) (xs.getD k 0) then aft (ga s 2 a) (ga s 1 a) (xs.getD k 0) else xs.getD k 0) := by
    intro k
    have : ∀ a, ∃ y, k < xs.length → a < c → y < xs.length ∧ ga t 11 (24 * k + a) = nI y ∧ xs.getD y 0 = (if sub (ga s 0 a) (xs.getD k 0) then aft (ga s 2 a) (ga s 1 a) (xs.getD k 0) else xs.getD k 0) := by
      intro a
      rcases Classical.em (k < xs.length ∧ a < c) with ⟨h1, h2⟩ | hno
      · obtain ⟨y, hy⟩ := hN k a (Or.inl h1) h2
        exact ⟨y, fun _ _ => hy⟩
      · exact ⟨0, fun h1 h2 => absurd ⟨h1, h2⟩ hno⟩
    exact Classical.skolem.mp this
  obtain ⟨nx, hnx⟩ := Classical.skolem.mp sk
  refine ⟨nx, ⟨hR.1, hR.2.1, hB.1, hx.2.1, h.1.2.2.1, fun k a hk ha => ⟨(hnx k a hk ha).1, (hnx k a hk ha).2.1⟩, fun a ha => ?_⟩, fun k a hk ha => ?_, fun k a k' he => ?_⟩
  · have ht := h.2.1 a ha
    obtain ⟨q, q1, q2, q3⟩ := hx.2.2.2.2.2.2 a ha
    have hc := cc_le hx ha
    refine ⟨?_, hc.1, hc.2⟩
    rw [ht.2.2.2.1]
    unfold cn
    rw [q3, nI_clamp (by omega)]
  · obtain ⟨z1, z2, z3⟩ := hnx k a hk ha
    by_cases w : sub (ga s 0 a) (xs.getD k 0)
    · rw [if_pos w] at z3
      exact Or.inl ⟨hk, ha, by rw [hS k hk]; exact w, z1, by rw [hS _ z1, hS k hk]; exact z3⟩
    · rw [if_neg w] at z3
      exact Or.inr (hB.2.2.1 _ _ z1 hk z3)
  · obtain ⟨e1, e2, e3, e4, e5⟩ := he
    obtain ⟨z1, z2, z3⟩ := hnx k a e1 e2
    rw [hS k e1] at e3 e5
    rw [if_pos e3, ← e5, hS k' e4] at z3
    exact hB.2.2.1 _ _ z1 e4 z3
theorem lo_step {c : Nat} {s : SC} {xs : List Int32} {W o : Nat → Nat} {nx : Nat → Nat → Nat} (hq : Msd c s xs W o) (hnx : ∀ k a, k < xs.length → a < c → Ex c s xs k a (nx k a) ∨ nx k a = k) : ∀ k a, k < xs.length → a < c → W (nx k a) / 1000 ≤ W k / 1000 + cn (ga s 3) a := by
  intro k a hk ha
  rcases hnx k a hk ha with he | e
  · have h1 := hq.2.2.2.1 _ _ _ he
    have h2 := hq.2.2.2.2.2.1 k hk
    have : wt (ga s 3) a = 1000 * cn (ga s 3) a + 1 := rfl
    omega
  · rw [e]; omega
theorem far_eq {c : Nat} {s : SC} {xs : List Int32} {W o : Nat → Nat} {nx : Nat → Nat → Nat} {far : Nat → Nat} (hq : Msd c s xs W o) (hnx : ∀ k a k', Ex c s xs k a k' → nx k a = k')
    (h1 : (∀ k, k < xs.length → far k ≤ 100000000 ∧ W k / 1000 ≤ far k) ∧ far 0 = 0) (h2 : ∀ k a, k < xs.length → a < c → far k < 100000000 → far (nx k a) ≤ far k + cn (ga s 3) a) : ∀ n k, k < xs.length → W k = n → far k = W k / 1000 := by
  intro n
  induction n using Nat.strongRecOn with
  | _ n ih =>
    intro k hk e
    have hlo := (h1.1 k hk).2
    rcases hq.2.2.2.2.1 k hk with z | ⟨j, a, z1, z2⟩
    · rw [z, h1.2, hq.2.2.1]
    · have hw : wt (ga s 3) a = 1000 * cn (ga s 3) a + 1 := rfl
      have hj : j < xs.length := z1.1
      have ha : a < c := z1.2.1
      have hfj := ih (W j) (by omega) j hj rfl
      have m1 := hq.2.2.2.2.2.1 j hj
      have m2 := hq.2.2.2.2.2.1 k hk
      have := h2 j a hj ha (by omega)
      rw [hnx j a k z1] at this
      omega
theorem ag_far_ok {n : Nat} (hn : 1000000000000 ≤ n) : ag_far n Rel := by
  rintro σ τ a1 ⟨c, h⟩
  unfold f_X11_far f_X12_far
  obtain ⟨s, t, hr, h16, hb⟩ := both_ok (n := n) (by omega) h
  rcases hb with ⟨e1, e2, _, _⟩ | ⟨e1, e2, xs, hre, h15, h14, hS, hH, hR, hN, hB⟩
  · rw [e1, e2, bd2_e, bd2_e, if_neg one_ne, if_pos rfl, RC4, RM4]; exact ⟨_, _, _, rfl, rfl, c, hr.ref 4⟩
  · have hl := hR.2.1
    have hch : Rch c s xs := ⟨h16, h15, hre⟩
    have hx := SX_of hr hch
    rw [e1, e2, bd2_e, bd2_e, if_pos rfl, if_neg one_ne, hR.1]
    have hasN : ∀ s0 : SC, gi s0 14 = nI xs.length → f_X6_hasNumber s0 a1 = (if a1 < 0 then (0 : Int32) else if nI xs.length ≤ a1 then 0 else 1) := fun s0 e => by unfold f_X6_hasNumber; rw [e]
    rw [hasN s h14]
    rcases Classical.em (inR a1 xs.length) with q | q
    · have q2 := (inR_iff (by omega)).mp q
      rw [if_neg q2.1, if_neg q2.2, if_neg one_ne, in_1 (by omega) q, if_neg one_ne]
      obtain ⟨s', W, o, e3, hr', hx', hch', hq, hs⟩ := far_C (n := n) (by omega) hr hch
      rw [e3, bd_e]
      obtain ⟨k, hk, rfl⟩ := q
      unfold f_X4_costTo
      rw [hasN s' hx'.2.2.2.2.2.1, if_neg q2.1, if_neg q2.2, if_neg one_ne, ld_n k rfl (by omega) (by omega), hq.2.1 k hk, bd_e]
      have hN' : NXt c (ga s' 0) (ga s' 1) (ga s' 2) t xs xs.length 0 := by
        rw [hs.2.1 0 (by omega), hs.2.1 1 (by omega), hs.2.1 2 (by omega)]; exact hN
      obtain ⟨nx, g1, g2, g3⟩ := RG_of hr' hx' hR hN'
      obtain ⟨t', far, f1, f2, f3, f4, f5⟩ := fars_M (lo := fun k => W k / 1000) hn (lo_step hq g2) (by show W 0 / 1000 = 0; rw [hq.2.2.1]) (fun k hk => by have := hq.2.2.2.2.2.1 k hk; show W k / 1000 ≤ _; omega) g1
      have hfar := far_eq hq g3 f4 f5 (W k) k hk rfl
      have m := hq.2.2.2.2.2.1 k hk
      rw [f1, bd_e, ld_n k rfl (by omega) (by omega), f3 k hk, hfar, show nI (W k) / 1000 = nI (W k / 1000) from pk_div (d := 1000) (by omega) (by omega) (by omega)]
      exact ⟨_, _, _, rfl, rfl, c, hr'.sameM (f2.m (by omega) (by omega))⟩
    · rw [in_0 (by omega) q, if_pos rfl, RM4]
      have : (if a1 < 0 then (0 : Int32) else if nI xs.length ≤ a1 then 0 else 1) = 0 := by
        by_cases w : a1 < 0
        · rw [if_pos w]
        · rw [if_neg w]
          by_cases w2 : nI xs.length ≤ a1
          · rw [if_pos w2]
          · exact absurd ((inR_iff (by omega)).mpr ⟨w, w2⟩) q
      rw [this, if_pos rfl, RC4]
      exact ⟨_, _, _, rfl, rfl, c, hr.ref 4⟩
/-- the reference's walk along its weights -/
theorem pickW_M {c N k p : Nat} {nx : Nat → Nat → Nat} {cc h : Nat → Nat} {s : SC} (hg : RG c N nx cc s) (hL : FVl 10 N s h) (hh : ∀ k, k < N → h k ≤ 100000000) (hk : k < N) (hp : p < c) (he : h (nx k p) + (1000 * cc p + 1) = h k) (hno : ∀ a, a < p → h (nx k a) + (1000 * cc a + 1) ≠ h k) (K : Int32 → Option (Int32 × SC)) :
    ∀ (d f A : Nat), A + d = p → d < f → LX12_isPlanned_35 s (nI k) K f (nI A) = K (nI p) := by
  have gN := hg.2.1
  have h24 := hg.2.2.2.1
  intro d
  induction d with
  | zero =>
    intro f A hA hf
    obtain ⟨f, rfl⟩ : ∃ f', f = f' + 1 := ⟨f - 1, by omega⟩
    have e : A = p := by omega
    subst e
    obtain ⟨n1, n2⟩ := hg.2.2.2.2.2.1 k A hk hp
    obtain ⟨c1, c2, c3⟩ := hg.2.2.2.2.2.2 A hp
    rw [LX12_isPlanned_35, ld24n (by omega) (by omega), n2, ld_n (nx k A) rfl (by omega) (by omega), hL _ n1, ld72n (by omega), c1, ld_n k rfl (by omega) (by omega), hL k hk, show (1000 : Int32) = nI 1000 from rfl, pk_mul, nI_add, nI_p1, if_pos (congrArg nI (show h (nx k A) + 1000 * cc A + 1 = h k by omega))]
  | succ d ih =>
    intro f A hA hf
    obtain ⟨f, rfl⟩ : ∃ f', f = f' + 1 := ⟨f - 1, by omega⟩
    obtain ⟨n1, n2⟩ := hg.2.2.2.2.2.1 k A hk (by omega)
    obtain ⟨c1, c2, c3⟩ := hg.2.2.2.2.2.2 A (by omega)
    have b1 := hh _ n1
    have b2 := hh _ hk
    have hne := hno A (by omega)
    rw [LX12_isPlanned_35, ld24n (by omega) (by omega), n2, ld_n (nx k A) rfl (by omega) (by omega), hL _ n1, ld72n (by omega), c1, ld_n k rfl (by omega) (by omega), hL k hk, show (1000 : Int32) = nI 1000 from rfl, pk_mul, nI_add, nI_p1, if_neg (nI_ne (show h (nx k A) + 1000 * cc A + 1 ≠ h k by omega) (by omega) (by omega)), lt_e, nI_p1]
    exact ih f (A + 1) (by omega) (by omega)
def SamT (σ σ1 : SC) : Prop := (∀ k, k ≠ 9 → gi σ1 k = gi σ k) ∧ (∀ a, a ≠ 12 → ga σ1 a = ga σ a) ∧ ∀ j, gl σ1 j = gl σ j
theorem SamT.m {σ s : SC} (h : SamT σ s) : SameM σ s := by
  refine ⟨fun k hk => h.1 k ?_, fun a ha => h.2.1 a ?_, h.2.2 0⟩
  · simp only [List.mem_cons, List.not_mem_nil, or_false] at hk; omega
  · simp only [List.mem_cons, List.not_mem_nil, or_false] at ha; omega
theorem planned_ok {n c : Nat} {s t : SC} {xs : List Int32} (hn : 1000000000000 ≤ n) (hr : RelC c s t) (hch : Rch c s xs) (hR : RMt t xs) (hN : NXt c (ga s 0) (ga s 1) (ga s 2) t xs xs.length 0) :
    ∃ s' t', f_X4_choose n s (gi s 2) = some s' ∧ SamP s s' ∧ RelC c s' t' ∧
      ((gi s' 20 = 0 ∧ f_X12_isPlanned n t = some (0, t')) ∨
       (gi s' 20 = 1 ∧ f_X12_isPlanned n t = some (1, t') ∧ ∃ D, D < 100000000 ∧ D % 1000 ≤ 300 ∧ gi s' 22 = nI (D / 1000) ∧ gi s' 21 = nI (D % 1000) ∧ gi t' 9 = nI (D % 1000) ∧ ga t' 10 0 = nI D ∧ ∀ i, i < D % 1000 → ∃ p, p < 24 ∧ ga s' 15 i = nI p ∧ ga t' 12 i = nI p)) := by
  obtain ⟨s', W, o, e1, hr', hx', hch', hq, hcho, hs⟩ := choose_C (n := n) (by omega) hr hch
  have hN' : NXt c (ga s' 0) (ga s' 1) (ga s' 2) t xs xs.length 0 := by
    rw [hs.2.1 0 (by omega), hs.2.1 1 (by omega), hs.2.1 2 (by omega)]; exact hN
  obtain ⟨nx, g1, g2, g3⟩ := RG_of hr' hx' hR hN'
  obtain ⟨t1, h, f1, f2, f3, f4, f5⟩ := lefts_M (w := wt (ga s' 3)) hn (fun _ => rfl) g1 hR.2.2
  have hl := hR.2.1
  have hpos := hx'.2.2.2.2.1.1
  have hgl : ga t 0 169 = gi s' 2 := hr'.1.2.2.2.2.2.1.symm
  have hS := hx'.2.2.1
  have hG : ∀ k, k < xs.length → (sub (ga t 0 169) (xs.getD k 0) ↔ sub (gi s' 2) (ga s' 10 k)) := fun k hk => by rw [hgl, hS k hk]
  -- the facts as wanted
  have hE : ∀ k a k', Ex c s' xs k a k' → k < xs.length ∧ k' < xs.length := fun k a k' he => ⟨he.1, he.2.2.2.1⟩
  have hw : ∀ a, wt (ga s' 3) a = 1000 * cn (ga s' 3) a + 1 := fun _ => rfl
  have q' := hq
  obtain ⟨q1, q2, q3, q4, q5, q6, q7, q8, q9⟩ := q'
  have h0 : ∀ k, k < xs.length → sub (gi s' 2) (ga s' 10 k) → h k = 0 := fun k hk hg => (f4 k hk).2.1 ((hG k hk).mpr hg)
  have hrr : ∀ k a k', Ex c s' xs k a k' → h k ≤ h k' + wt (ga s' 3) a := fun k a k' he => by have := f5 k a he.1 he.2.1; rw [g3 k a k' he] at this; exact this
  have ht : ∀ k, k < xs.length → h k = 100000000 ∨ (sub (gi s' 2) (ga s' 10 k) ∧ h k = 0) ∨ ∃ a k', Ex c s' xs k a k' ∧ h k = h k' + wt (ga s' 3) a := by
    intro k hk
    rcases (f4 k hk).2.2 with z | z | ⟨a, z1, z2⟩
    · exact Or.inl z
    · exact Or.inr (Or.inl ⟨(hG k hk).mp z.1, z.2⟩)
    · have h1 := f5 k a hk z1
      have h2 := hw a
      rcases g2 k a hk z1 with he | e
      · exact Or.inr (Or.inr ⟨a, _, he, by omega⟩)
      · rw [e] at z2; omega
  unfold f_X12_isPlanned
  rw [f1, bd_e, lt_e, ld_n (i := 0) 0 rfl (by omega) (by omega), show ga (si t1 9 0) 10 0 = nI (h 0) from f3 0 hpos]
  have hb0 := (f4 0 hpos).1
  rcases hcho with ⟨c1, c2⟩ | ⟨c1, D, ⟨g, cg1, cg2, cg3⟩, c3, c4, c5, OB, c6, v, p, c7, c8⟩
  · have : ¬ h 0 < 100000000 := fun w => by
      obtain ⟨_, g, z1, z2⟩ := wy_lo (D := 0) hE hw q4 ht (fun _ _ _ => Nat.zero_le _) (h 0) 0 hpos rfl w
      exact c2 g z1 z2
    rw [if_neg (show ¬ nI (h 0) < (100000000 : Int32) from nI_nlt (b := 100000000) (by omega) (by omega))]
    exact ⟨s', si t1 9 0, e1, hs, hr'.sameM (smi _ (by decide) (f2.m (by omega) (by omega))), Or.inl ⟨c1, rfl⟩⟩
  · have hD2 : D < 100000000 := by rw [← cg3]; exact wy_lt hw q3 hE q5 q6 cg1
    have hD3 : D % 1000 ≤ 300 := by rw [← cg3]; exact (q6 g cg1).1
    have obg : OB g := (c6 g cg1).mpr (Or.inl ⟨cg3, cg2⟩)
    have ob0 : OB 0 := wy_back hE hw q5 c6 (W g) g cg1 rfl obg
    have hinv : ∀ i, i ≤ D % 1000 → v i < xs.length ∧ OB (v i) ∧ W (v i) % 1000 = i := by
      intro i
      induction i with
      | zero => intro _; rw [c7]; exact ⟨hpos, ob0, by omega⟩
      | succ i ih =>
        intro hi
        obtain ⟨i1, i2, i3⟩ := ih (by omega)
        obtain ⟨_, p2, p3, p4, _⟩ := c8 i (by omega)
        have := hw (p i)
        exact ⟨p2.2.2.2.1, p4, by omega⟩
    have hst := fun k hk ho => wy_step hE hw q6 q4 h0 hrr ht c3 hD2 c6 (k := k) hk ho
    have hup := fun k hk ho => wy_up hE hw q6 h0 hrr c6 (D - W k) k hk rfl ho
    have e0 : h 0 = D := by have := (hst 0 hpos ob0).1; omega
    rw [e0, if_pos (show nI D < (100000000 : Int32) from nI_lt (b := 100000000) hD2 (by omega))]
    have key : ∀ (d f i : Nat) (u : SC), i + d = D % 1000 → d < f → SamT (si t1 9 0) u → gi u 9 = nI i → (∀ q, q < i → ga u 12 q = nI (p q)) →
        ∃ u', LX12_isPlanned_24 n (fun σ15 => some (1, σ15)) f u (nI (v i)) = some (1, u') ∧ SamT (si t1 9 0) u' ∧ gi u' 9 = nI (D % 1000) ∧ ∀ q, q < D % 1000 → ga u' 12 q = nI (p q) := by
      intro d
      induction d with
      | zero =>
        intro f i u hi hf hu h9 hp
        obtain ⟨f, rfl⟩ : ∃ f', f = f' + 1 := ⟨f - 1, by omega⟩
        obtain ⟨i1, i2, i3⟩ := hinv i (by omega)
        have e4 := (hup (v i) i1 i2).2.2.2 (by omega)
        have e5 := (hst (v i) i1 i2).1
        have ez : h (v i) = 0 := by omega
        rw [LX12_isPlanned_24, ld_n (v i) rfl (by omega) (by omega), hu.2.1 10 (by omega), show ga (si t1 9 0) 10 (v i) = nI (h (v i)) from f3 _ i1, ez, if_pos (show nI 0 ≤ 0 by decide)]
        exact ⟨u, rfl, hu, by rw [h9, show i = D % 1000 by omega], fun q hq => hp q (by omega)⟩
      | succ d ih =>
        intro f i u hi hf hu h9 hp
        obtain ⟨f, rfl⟩ : ∃ f', f = f' + 1 := ⟨f - 1, by omega⟩
        obtain ⟨i1, i2, i3⟩ := hinv i (by omega)
        obtain ⟨p1, p2, p3, p4, p5⟩ := c8 i (by omega)
        have hpc : p i < c := p2.2.1
        have h24 := hx'.2.1
        have e5 := (hst (v i) i1 i2)
        have hle := (hup (v i) i1 i2).1
        have hWD : W (v i) ≠ D := fun e => by rw [e] at i3; omega
        have hbv := (f4 (v i) i1).1
        have gu : RG c xs.length nx (cn (ga s' 3)) u := by
          have gs := g1.same f2 (Or.inr rfl)
          unfold RG at gs ⊢
          rw [hu.1 8 (by omega), hu.2.1 0 (by omega), hu.2.1 11 (by omega)]; exact gs
        have fu : FVl 10 xs.length u h := fun k hk => by rw [hu.2.1 10 (by omega)]; exact f3 k hk
        have epick : h (nx (v i) (p i)) + (1000 * cn (ga s' 3) (p i) + 1) = h (v i) := by
          rw [g3 _ _ _ p2]; exact (e5.2 _ _ p2).mp ⟨p3, p4⟩
        have eno : ∀ a, a < p i → h (nx (v i) a) + (1000 * cn (ga s' 3) a + 1) ≠ h (v i) := by
          intro a ha e
          rcases g2 (v i) a i1 (by omega) with he | e2
          · exact p5 a _ ha he ((e5.2 _ _ he).mpr e)
          · rw [e2] at e; omega
        rw [LX12_isPlanned_24, ld_n (v i) rfl (by omega) (by omega), fu _ i1, if_neg (show ¬ nI (h (v i)) ≤ 0 from nI_nle (by omega) (by omega)),
          show LX12_isPlanned_35 u (nI (v i)) _ n 0 = _ from pickW_M gu fu (fun k hk => (f4 k hk).1) i1 hpc epick eno _ (p i) n 0 (by omega) (by omega), h9, ck_n i rfl (by omega) (by omega), nI_clamp (by omega)]
        simp only [lt_e]
        rw [show gi (sa u 12 (upd (ga u 12) i (nI (p i)))) 9 = nI i from h9, nI_p1]
        have hu2 : SamT (si t1 9 0) (si (sa u 12 (upd (ga u 12) i (nI (p i)))) 9 (nI (i + 1))) := by
          refine ⟨fun k hk => ?_, fun a ha => ?_, hu.2.2⟩
          · rw [gi_si, if_neg hk]; exact hu.1 k hk
          · rw [ga_si, ga_sa, if_neg ha]; exact hu.2.1 a ha
        rw [show ga (si (sa u 12 (upd (ga u 12) i (nI (p i)))) 9 (nI (i + 1))) 11 = ga u 11 from rfl, ld24n (by omega) (by omega), (gu.2.2.2.2.2.1 (v i) (p i) i1 hpc).2, g3 _ _ _ p2]
        refine ih f (i + 1) _ (by omega) (by omega) hu2 rfl (fun q hq => ?_)
        show upd (ga u 12) i (nI (p i)) q = _
        rw [ud_s]
        by_cases e : q = i
        · rw [if_pos e, e]
        · rw [if_neg e]; exact hp q (by omega)
    obtain ⟨u', r1, r2, r3, r4⟩ := key (D % 1000) n 0 (si t1 9 0) (by omega) (by omega) ⟨fun _ _ => rfl, fun _ _ => rfl, fun _ => rfl⟩ rfl (fun q hq => absurd hq (by omega))
    rw [c7] at r1
    refine ⟨s', u', e1, hs, hr'.sameM ((smi _ (by decide) (f2.m (by omega) (by omega))).tr r2.m), Or.inr ⟨c1, r1, D, hD2, hD3, c4, c5, r3, ?_, fun i hi => ?_⟩⟩
    · rw [r2.2.1 10 (by omega)]; show ga t1 10 0 = _; rw [f3 0 hpos, e0]
    · have hpc : p i < c := (c8 i hi).2.1.2.1
      exact ⟨p i, Nat.lt_of_lt_of_le hpc hx'.2.1, (c8 i hi).1, r4 i hi⟩
