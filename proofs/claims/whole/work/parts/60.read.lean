/-! READ: items one behind another, three runs together -/
def FrI (c : Nat) (σ s : SC) : Prop := (∀ k, k < 23 ∨ 29 < k → gi s k = gi σ k) ∧ (∀ k, 8 ≤ k → ga s k = ga σ k) ∧ (∀ k b, k < 8 → b < c → ga s k b = ga σ k b) ∧ ∀ j, gl s j = gl σ j
theorem FrI.tr {c : Nat} {a b d : SC} (h : FrI c a b) (h2 : FrI c b d) : FrI c a d := ⟨fun k p => (h2.1 k p).trans (h.1 k p), fun k p => (h2.2.1 k p).trans (h.2.1 k p), fun k b p q => (h2.2.2.1 k b p q).trans (h.2.2.1 k b p q), fun j => (h2.2.2.2 j).trans (h.2.2.2 j)⟩
theorem FrI.rf (c : Nat) (s : SC) : FrI c s s := ⟨fun _ _ => rfl, fun _ _ => rfl, fun _ _ _ _ => rfl, fun _ => rfl⟩
theorem FrS.fi {s s' : SC} (h : FrS s s') (c : Nat) : FrI c s s' := ⟨fun k p => h.1 k (by omega) (by omega), fun k _ => h.2.1 k, fun k b _ _ => by rw [h.2.1 k], h.2.2.1⟩
theorem FrI.i {c : Nat} {s : SC} {k : Nat} (v : Int32) (h1 : 23 ≤ k) (h2 : k ≤ 29) : FrI c s (si s k v) := by
  refine ⟨fun q hq => ?_, fun _ _ => rfl, fun _ _ _ _ => rfl, fun _ => rfl⟩
  rw [gi_si, if_neg (by omega)]
def Fr6 (τ t : SC) : Prop := (∀ k, k ≠ 3 → k ≠ 4 → k ≠ 5 → k ≠ 6 → gi t k = gi τ k) ∧ (∀ a, ga t a = ga τ a) ∧ ∀ j, gl t j = gl τ j
theorem Fr6.tr {a b d : SC} (h : Fr6 a b) (h2 : Fr6 b d) : Fr6 a d := ⟨fun k p q r s => (h2.1 k p q r s).trans (h.1 k p q r s), fun a => (h2.2.1 a).trans (h.2.1 a), fun j => (h2.2.2 j).trans (h.2.2 j)⟩
theorem FrT.f6 {s s' : SC} (h : FrT s s') : Fr6 s s' := ⟨fun k p q r _ => h.1 k p q r, h.2.1, h.2.2⟩
theorem MStt.f6 {j z : Nat} {w : Nat → Int32} {s s' : SC} (h : MStt j z w s) (e : Fr6 s s') : MStt j z w s' := by
  unfold MStt at *
  rw [e.1 2 (by omega) (by omega) (by omega) (by omega), e.2.1, e.2.2]; exact h
def FrU (τ u : SC) : Prop := (∀ k, k ≠ 3 → k ≠ 4 → k ≠ 5 → k ≠ 6 → gi u k = gi τ k) ∧ (∀ a, a ≠ 0 → ga u a = ga τ a) ∧ (∀ j, gl u j = gl τ j) ∧ ga u 0 171 = ga τ 0 171
def RdC (c a i z p j : Nat) (w : Nat → Int32) (σ s : SC) : Prop := CSt j z w s ∧ CQ z s (.inl p) ∧ gi s 6 = nI c ∧ gi s 26 = nI a ∧ gi s 25 = nI i ∧ FrI c σ s ∧ (∀ b, b < c + a → WfA s b) ∧ s30 (gi s 27) ∧ s30 (gi s 28) ∧ s30 (gi s 29) ∧ c + a ≤ 24
def RdT (c a z p j : Nat) (w : Nat → Int32) (τ t : SC) : Prop := MStt j z w t ∧ MQr z t (.inl p) ∧ ga t 0 172 = nI c ∧ gi t 6 = nI a ∧ Fr6 τ t
def RdU (c a z p j : Nat) (w : Nat → Int32) (τ s u : SC) : Prop := MStt j z w u ∧ MQr z u (.inl p) ∧ ga u 0 172 = nI (c + a) ∧ gi u 6 = 0 ∧ Tab (c + a) (ga u 0) s ∧ ga u 0 168 = gi s 27 ∧ ga u 0 169 = gi s 28 ∧ ga u 0 170 = gi s 29 ∧ FrU τ u
theorem upM_hi {f : Nat → Int32} {c q : Nat} (hc : c < 24) (h1 : 168 ≤ q) (h2 : q < 172) (a b d e k x y : Int32) : upM f c a b d e k x y q = f q := by
  unfold upM
  simp only [ud_s]
  rw [if_neg (by omega), if_neg (by omega), if_neg (by omega), if_neg (by omega), if_neg (by omega), if_neg (by omega), if_neg (by omega), if_neg (by omega)]
theorem upM_o {f : Nat → Int32} {c q v : Nat} (hc : c < 24) (hq : q < 24) (hv : v < 7) (hne : q ≠ c) (a b d e k x y : Int32) : upM f c a b d e k x y (24 * v + q) = f (24 * v + q) := by
  unfold upM
  simp only [ud_s]
  rw [if_neg (by omega), if_neg (by omega), if_neg (by omega), if_neg (by omega), if_neg (by omega), if_neg (by omega), if_neg (by omega), if_neg (by omega)]
theorem upM_v {f : Nat → Int32} {c : Nat} (hc : c < 24) (a b d e k x y : Int32) : upM f c a b d e k x y c = a ∧ upM f c a b d e k x y (24 + c) = b ∧ upM f c a b d e k x y (48 + c) = d ∧ upM f c a b d e k x y (72 + c) = e ∧ upM f c a b d e k x y (96 + c) = k ∧ upM f c a b d e k x y (120 + c) = x ∧ upM f c a b d e k x y (144 + c) = y ∧ upM f c a b d e k x y 172 = f 172 + 1 := by
  unfold upM
  simp only [ud_s]
  refine ⟨?_, ?_, ?_, ?_, ?_, ?_, ?_, ?_⟩
  · rw [if_neg (by omega), if_neg (by omega), if_neg (by omega), if_neg (by omega), if_neg (by omega), if_neg (by omega), if_neg (by omega), if_true]
  · rw [if_neg (by omega), if_neg (by omega), if_neg (by omega), if_neg (by omega), if_neg (by omega), if_neg (by omega), if_true]
  · rw [if_neg (by omega), if_neg (by omega), if_neg (by omega), if_neg (by omega), if_neg (by omega), if_true]
  · rw [if_neg (by omega), if_neg (by omega), if_neg (by omega), if_neg (by omega), if_true]
  · rw [if_neg (by omega), if_neg (by omega), if_neg (by omega), if_true]
  · rw [if_neg (by omega), if_neg (by omega), if_true]
  · rw [if_neg (by omega), if_true]
  · rw [if_true]
/-- what an item does in all three runs -/
def It3 (n c a i z p j : Nat) (w : Nat → Int32) (σ τ s t : SC) : Prop :=
  ∃ s' t', f_X9_readItem n s = some s' ∧ f_X12_item n t 0 = some t' ∧ FrI c σ s' ∧ Fr6 τ t' ∧ CSt j z w s' ∧ MStt j z w t' ∧
   ((∃ f, CQ z s' (.inr f) ∧ MQr z t' (.inr f)) ∨ (∃ a' p', p ≤ p' ∧ RdC c a' (i + 1) z p' j w σ s' ∧ RdT c a' z p' j w τ t' ∧ ∀ u, RdU c a z p j w τ s u → ∃ u', f_X12_item n u 1 = some u' ∧ RdU c a' z p' j w τ s' u'))
theorem CQ.i {z : Nat} {s : SC} {q : Nat ⊕ Nat} {k : Nat} (v : Int32) (h : CQ z s q) (hk : 25 ≤ k) : CQ z (si s k v) q := by
  cases q with
  | inl p => exact ⟨h.1, by rw [gi_si, if_neg (by omega)]; exact h.2.1, by rw [gi_si, if_neg (by omega)]; exact h.2.2⟩
  | inr f => exact ⟨h.1, by rw [gi_si, if_neg (by omega)]; exact h.2⟩
theorem it3_act {n c a i z p j : Nat} {w : Nat → Int32} {σ τ s t : SC} (hn : 1000000 ≤ n) (hC : RdC c a i z p j w σ s) (hT : RdT c a z p j w τ t) (hp : p < z) (hw : w p = 97) : It3 n c a i z p j w σ τ s t := by
  obtain ⟨c1, c2, c3, c4, c5, c6, c7, c8, c9, c10, c11⟩ := hC
  obtain ⟨t1, t2, t3, t4, t5⟩ := hT
  have hz := c1.2.2.1
  have c2' := c2
  obtain ⟨d1, d2, d3⟩ := c2'
  obtain ⟨full, hf⟩ : ∃ full : Bool, full = true ↔ c + a = 24 := ⟨decide (c + a = 24), by simp⟩
  have h24i : nI (c + a) = 24 ↔ c + a = 24 := nI_eq (a := c + a) (b := 24) (by omega) (by omega)
  obtain ⟨s1, fs, ks, hs⟩ := act_C hn c1 c2 c3 c4 c11 hf
  -- the class
  have eC : f_X9_readItem n s = bd (f_X9_readAct n s) (fun σ7 => some (si σ7 25 (gi σ7 25 + 1))) := by
    unfold f_X9_readItem
    rw [if_pos d3, peek_C c1 d2 d1, bd_e, if_pos hp, hw]
    simp only [jn_e, lt_e]
    rw [if_true]
  -- the first pass
  obtain ⟨x1, e1, k1, f1⟩ := wordL_M (full := full) (u3 := 97) hn t1 t2 (by rw [t3, t4, nI_add]; exact ⟨fun q => ⟨rfl, h24i.mpr (hf.mp q)⟩, fun q => hf.mpr (h24i.mp q.2)⟩)
  have k1 : MQr z x1 (wrq z w full p 7 (.inl p)) := k1
  rw [wrq_7] at k1
  obtain ⟨⟨t', e2, k2, g2, ga2, gl2, g6⟩, _⟩ := actB_M (cc := 0) hn (t1.same f1) k1
  have eT : f_X12_item n t 0 = some t' := by rw [item_e 0 t1 t2, if_pos hp, hw, e1, bd_e, e2]
  have ft : Fr6 t t' := f1.f6.tr ⟨g2, ga2, gl2⟩
  rcases hs with ⟨f, hr, er⟩ | ⟨p', hr, er⟩
  · rw [hr] at ks k2
    refine ⟨si s1 25 (gi s1 25 + 1), t', by rw [eC, er, bd_e], eT, (c6.tr (fs.fi c)).tr (FrI.i _ (by omega) (by omega)), t5.tr ft, ?_, t1.f6 ft, Or.inl ⟨f, ks.i _ (by omega), k2⟩⟩
    have hcs := c1.same fs
    exact hcs
  · obtain ⟨l1, _, _, _, _, hfl, n1, n99⟩ := act_in hr
    have hlt : c + a < 24 := by
      rcases Nat.lt_or_ge (c + a) 24 with l | l
      · exact l
      · have := hf.mpr (by omega); rw [hfl] at this; cases this
    have sa1 : s30 (a2q z w full p).2 := fcq_s _
    have sa2 : s30 (a3q z w full p).2 := fcq_s _
    have sa3 : s30 (a4q z w full p).2 := fcq_s _
    have hk6 := g6 p' hr
    rw [hr] at ks k2
    have wo := wrC_o s1 (c + a) (a2q z w full p).2 (a3q z w full p).2 (a4q z w full p).2 (nI (a5q z w full p).2)
    have w8 := wrC_8 s1 (c + a) (a2q z w full p).2 (a3q z w full p).2 (a4q z w full p).2 (nI (a5q z w full p).2)
    obtain ⟨v0, v1, v2, v3, v4, v5, v6, v7⟩ := wrC_v s1 (c + a) (a2q z w full p).2 (a3q z w full p).2 (a4q z w full p).2 (nI (a5q z w full p).2)
    have wg : ∀ k, gi (wrC s1 (c + a) (a2q z w full p).2 (a3q z w full p).2 (a4q z w full p).2 (nI (a5q z w full p).2)) k = gi s1 k := fun _ => rfl
    have wl : ∀ k, gl (wrC s1 (c + a) (a2q z w full p).2 (a3q z w full p).2 (a4q z w full p).2 (nI (a5q z w full p).2)) k = gl s1 k := fun _ => rfl
    have wt' : gt (wrC s1 (c + a) (a2q z w full p).2 (a3q z w full p).2 (a4q z w full p).2 (nI (a5q z w full p).2)) = gt s1 := rfl
    generalize hW : wrC s1 (c + a) (a2q z w full p).2 (a3q z w full p).2 (a4q z w full p).2 (nI (a5q z w full p).2) = W at *
    have fW : FrI c s1 W := ⟨fun k _ => wg k, fun k hk => w8 k hk, fun k b hk hb => wo k b (by omega), fun j => wl j⟩
    have fF : FrI c s (si (si W 26 (nI (a + 1))) 25 (gi (si W 26 (nI (a + 1))) 25 + 1)) := (((fs.fi c).tr fW).tr (FrI.i _ (by omega) (by omega))).tr (FrI.i _ (by omega) (by omega))
    have cS : CSt j z w (si (si W 26 (nI (a + 1))) 25 (gi (si W 26 (nI (a + 1))) 25 + 1)) := by
      have := c1.same fs
      unfold CSt at this ⊢
      refine ⟨wt'.trans this.1, this.2.1, this.2.2.1, ?_, fun q hq => ?_⟩
      · show ga W 19 j = _; rw [w8 19 (by omega)]; exact this.2.2.2.1
      · show (gl W j q).toInt32 = _; rw [wl]; exact this.2.2.2.2 q hq
    refine ⟨si (si W 26 (nI (a + 1))) 25 (gi (si W 26 (nI (a + 1))) 25 + 1), t', by rw [eC, er, bd_e], eT, c6.tr fF, t5.tr ft, cS, t1.f6 ft, Or.inr ⟨a + 1, p', l1, ⟨cS, ?_, ?_, rfl, ?_, c6.tr fF, fun b hb => ?_, ?_, ?_, ?_, by omega⟩, ⟨t1.f6 ft, k2, ?_, ?_, t5.tr ft⟩, fun u hu => ?_⟩⟩
    · refine CQ.i _ (CQ.i _ ?_ (by omega)) (by omega)
      exact ⟨ks.1, by rw [wg]; exact ks.2.1, by rw [wg]; exact ks.2.2⟩
    · show gi W 6 = _; rw [wg, fs.1 6 (by omega) (by omega), c3]
    · show gi W 25 + 1 = _; rw [wg, fs.1 25 (by omega) (by omega), c5, nI_p1]
    · show WfA W b
      by_cases e : b = c + a
      · rw [e]
        exact ⟨by rw [v0]; exact sa1, by rw [v1]; exact sa2, by rw [v2]; exact sa3, ⟨_, n1, n99, v3⟩, Or.inl ⟨v4, v5, v6, v7⟩⟩
      · obtain ⟨w1, w2, w3, w4, w5⟩ := c7 b (by omega)
        have q : ∀ k, ga W k b = ga s k b := fun k => by rw [wo k b e, fs.2.1]
        unfold WfA
        rw [q 0, q 1, q 2, q 3, q 4, q 5, q 6, q 7]
        refine ⟨w1, w2, w3, w4, ?_⟩
        rcases w5 with w5 | ⟨i', j', hi, hj, w5⟩
        · exact Or.inl w5
        · refine Or.inr ⟨i', j', hi, hj, ?_⟩
          rw [wo 7 i' (by omega), wo 7 j' (by omega), fs.2.1]
          exact w5
    · show s30 (gi W 27); rw [wg, fs.1 27 (by omega) (by omega)]; exact c8
    · show s30 (gi W 28); rw [wg, fs.1 28 (by omega) (by omega)]; exact c9
    · show s30 (gi W 29); rw [wg, fs.1 29 (by omega) (by omega)]; exact c10
    · rw [ft.2.1]; exact t3
    · rw [hk6, f1.1 6 (by omega) (by omega) (by omega), t4, nI_p1]
    · obtain ⟨u1, u2, u3, u4, u5, u6, u7, u8, u9⟩ := hu
      obtain ⟨y1, ey1, ky1, fy1⟩ := wordL_M (full := full) (u3 := 97) hn u1 u2 (by rw [u3, u4, Int32.add_zero]; exact ⟨fun q => ⟨rfl, h24i.mpr (hf.mp q)⟩, fun q => hf.mpr (h24i.mp q.2)⟩)
      have ky1 : MQr z y1 (wrq z w full p 7 (.inl p)) := ky1
      rw [wrq_7] at ky1
      obtain ⟨_, hsec⟩ := actB_M (cc := c + a) hn (u1.same fy1) ky1
      obtain ⟨u', eu, ku, gu, g6u, gau, glu, g0u⟩ := hsec p' hr hlt (by rw [fy1.2.1 0]; exact u3)
      rw [fy1.2.1 0] at g0u
      refine ⟨u', by rw [item_e 1 u1 u2, if_pos hp, hw, ey1, bd_e, eu], ?_, ku, ?_, ?_, ?_, ?_, ?_, ?_, ?_⟩
      · unfold MStt at u1 ⊢
        rw [gu 2 (by omega) (by omega) (by omega) (by omega), fy1.1 2 (by omega) (by omega) (by omega), gau 4 (by omega), fy1.2.1, glu, fy1.2.2]; exact u1
      · rw [g0u, (upM_v hlt _ _ _ _ _ _ _).2.2.2.2.2.2.2, u3, nI_p1]; rfl
      · rw [g6u, fy1.1 6 (by omega) (by omega) (by omega), u4]; rfl
      · intro b hb
        show ga u' 0 b = ga W 0 b ∧ ga u' 0 (24 + b) = ga W 1 b ∧ ga u' 0 (48 + b) = ga W 2 b ∧ ga u' 0 (72 + b) = ga W 3 b ∧ ga u' 0 (96 + b) = ga W 4 b ∧ ga u' 0 (120 + b) = ga W 5 b ∧ ga u' 0 (144 + b) = ga W 6 b
        rw [g0u]
        by_cases e : b = c + a
        · obtain ⟨r0, r1, r2, r3, r4, r5, r6, _⟩ := upM_v (f := ga u 0) hlt (a2q z w full p).2 (a3q z w full p).2 (a4q z w full p).2 (nI (a5q z w full p).2) 0 (-1) (-1)
          rw [e, r0, r1, r2, r3, r4, r5, r6, v0, v1, v2, v3, v4, v5, v6]
          exact ⟨rfl, rfl, rfl, rfl, rfl, rfl, rfl⟩
        · have q : ∀ k, ga W k b = ga s k b := fun k => by rw [wo k b e, fs.2.1]
          have o := fun v hv => upM_o (f := ga u 0) (q := b) (v := v) hlt (by omega) hv e (a2q z w full p).2 (a3q z w full p).2 (a4q z w full p).2 (nI (a5q z w full p).2) 0 (-1) (-1)
          have o0 := o 0 (by omega); have o1 := o 1 (by omega); have o2 := o 2 (by omega); have o3 := o 3 (by omega); have o4 := o 4 (by omega); have o5 := o 5 (by omega); have o6 := o 6 (by omega)
          rw [show 24 * 0 + b = b by omega] at o0
          rw [show 24 * 1 + b = 24 + b by omega] at o1
          rw [show 24 * 2 + b = 48 + b by omega] at o2
          rw [show 24 * 3 + b = 72 + b by omega] at o3
          rw [show 24 * 4 + b = 96 + b by omega] at o4
          rw [show 24 * 5 + b = 120 + b by omega] at o5
          rw [show 24 * 6 + b = 144 + b by omega] at o6
          rw [o0, o1, o2, o3, o4, o5, o6, q, q, q, q, q, q, q]
          exact u5 b (by omega)
      · show _ = gi W 27
        rw [g0u, upM_hi hlt (by omega) (by omega), u6, wg, fs.1 27 (by omega) (by omega)]
      · show _ = gi W 28
        rw [g0u, upM_hi hlt (by omega) (by omega), u7, wg, fs.1 28 (by omega) (by omega)]
      · show _ = gi W 29
        rw [g0u, upM_hi hlt (by omega) (by omega), u8, wg, fs.1 29 (by omega) (by omega)]
      · refine ⟨fun k a b d e => ?_, fun a ha => ?_, fun q => ?_, ?_⟩
        · rw [gu k a b d e, fy1.1 k a b d]; exact u9.1 k a b d e
        · rw [gau a ha, fy1.2.1]; exact u9.2.1 a ha
        · rw [glu, fy1.2.2]; exact u9.2.2.1 q
        · rw [g0u, upM_hi hlt (by omega) (by omega)]; exact u9.2.2.2
