/-! THE START: the two new objects -/
def ad (q0 : Nat) (u : Nat → Nat) : Nat → Nat
  | 0 => q0
  | k + 1 => u k
def σ0C : SC := (fun k => if k = 4 then 1 else if k = 5 then -1 else if k = 24 then -1 else if k = 30 then -1 else 0, fun a => if a = 20 then (fun _ => -1) else (fun _ => 0), fun _ _ => 0, 0)
def τ0M : SC := (fun k => if k = 5 then -1 else 0, fun a => if a = 0 then upd (fun _ => 0) (171 : Int32).toNatClampNeg 1 else if a = 3 then (upd (upd (upd (upd (upd (upd (upd (upd (fun _ => 0) (0 : Int32).toNatClampNeg (-1)) (1 : Int32).toNatClampNeg (-1)) (2 : Int32).toNatClampNeg (-1)) (3 : Int32).toNatClampNeg (-1)) (4 : Int32).toNatClampNeg (-1)) (5 : Int32).toNatClampNeg (-1)) (6 : Int32).toNatClampNeg (-1)) (7 : Int32).toNatClampNeg (-1)) else (fun _ => 0), fun _ _ => 0, 0)
def shn (u : Nat → Nat) : Nat → Option Nat := (va_up (va_up (va_up (va_up (va_up (va_up (va_up (va_up (fun _ => none) (0 : Int32).toNatClampNeg (some (u 30))) (1 : Int32).toNatClampNeg (some (u 32))) (2 : Int32).toNatClampNeg (some (u 34))) (3 : Int32).toNatClampNeg (some (u 36))) (4 : Int32).toNatClampNeg (some (u 38))) (5 : Int32).toNatClampNeg (some (u 40))) (6 : Int32).toNatClampNeg (some (u 42))) (7 : Int32).toNatClampNeg (some (u 44)))
theorem sh_cell (G : EN) (q0 : Nat) (u : Nat → Nat) : vp_cell (G.2.1 3) (8, .inr (.inr (.inr (.inr (shn u))))) = vp_cell (G.2.1 3) (8, .inr (.inr (.inr (.inr (fun k => some (ad q0 u (31 + 2 * k))))))) := by
  refine arrV_cong (f := fun j => va_rf (shn u j)) (g := fun j => va_rf (some (ad q0 u (31 + 2 * j)))) _ _ (fun k hk => ?_)
  match k, hk with
  | 0, _ => rfl
  | 1, _ => rfl
  | 2, _ => rfl
  | 3, _ => rfl
  | 4, _ => rfl
  | 5, _ => rfl
  | 6, _ => rfl
  | 7, _ => rfl
theorem start_C {G : EN} {A : Nat → Prop} {s : State} {wr : va_W} {H : Heap} {locs : List Loc} {q0 : Nat} {u : Nat → Nat} (hW : WS G A s ((wC G (ad q0 u) σ0C ++ wr).set 10 (u 9, .inl (G.2.1 3, 8, .inr (.inr (.inr (.inr (shn u))))))) H locs) : WS G A s (wC G (ad q0 u) σ0C ++ wr) H locs :=
  WS.cell (y := (8, .inr (.inr (.inr (.inr (fun k => some (ad q0 u (31 + 2 * k)))))))) (sh_cell G q0 u) hW

theorem start_K {s : State} {b : Addr} (hts : ∀ w ∈ lw_tbl, w.before #[Value.ref b] s = true) : ∃ (D : va_G) (cy : Nat → ClassId), va_K D vwCl [(cy 0, .int), (cy 1, .long), (cy 2, .boolean), (cy 3, .object "PlanLandmarks$Shelf")] s := by
  have hg : ∀ w ∈ GW, w.before #[Value.ref b] s = true := fun w h => hts w (List.mem_filter.mp h).1
  obtain ⟨cX0, iX0, hX0⟩ := u_known (C := RX0) (T := TX0) (N := 9) (n := 9) hg giX0 (hg _ nw_X0)
  obtain ⟨cX1, iX1, hX1⟩ := u_known (C := RX1) (T := TX1) (N := 4) (n := 4) hg giX1 (hg _ nw_X1)
  obtain ⟨cX2, iX2, hX2⟩ := u_known (C := RX2) (T := TX2) (N := 3) (n := 3) hg giX2 (hg _ nw_X2)
  obtain ⟨cX3, iX3, hX3⟩ := u_known (C := RX3) (T := TX3) (N := 3) (n := 3) hg giX3 (hg _ nw_X3)
  obtain ⟨cX4, iX4, hX4⟩ := u_known (C := RX4) (T := TX4) (N := 12) (n := 12) hg giX4 (hg _ nw_X4)
  obtain ⟨cX5, iX5, hX5⟩ := u_known (C := RX5) (T := TX5) (N := 6) (n := 6) hg giX5 (hg _ nw_X5)
  obtain ⟨cX6, iX6, hX6⟩ := u_known (C := RX6) (T := TX6) (N := 6) (n := 6) hg giX6 (hg _ nw_X6)
  obtain ⟨cX7, iX7, hX7⟩ := u_known (C := RX7) (T := TX7) (N := 7) (n := 7) hg giX7 (hg _ nw_X7)
  obtain ⟨cX8, iX8, hX8⟩ := u_known (C := RX8) (T := TX8) (N := 3) (n := 3) hg giX8 (hg _ nw_X8)
  obtain ⟨cX9, iX9, hX9⟩ := u_known (C := RX9) (T := TX9) (N := 9) (n := 9) hg giX9 (hg _ nw_X9)
  obtain ⟨cX10, iX10, hX10⟩ := u_known (C := RX10) (T := TX10) (N := 5) (n := 5) hg giX10 (hg _ nw_X10)
  obtain ⟨cX11, iX11, hX11⟩ := u_known (C := RX11) (T := TX11) (N := 17) (n := 17) hg giX11 (hg _ nw_X11)
  obtain ⟨cX12, iX12, hX12⟩ := u_known (C := RX12) (T := TX12) (N := 29) (n := 29) hg giX12 (hg _ nw_X12)
  obtain ⟨a0, k0, m0, p0, q0, r0⟩ := Cond.arrayClass_spec (hg _ ac_int)
  obtain ⟨a1, k1, m1, p1, q1, r1⟩ := Cond.arrayClass_spec (hg _ ac_long)
  obtain ⟨a2, k2, m2, p2, q2, r2⟩ := Cond.arrayClass_spec (hg _ ac_boolean)
  obtain ⟨m3, a3, k3, o3, w3, q3, r3, p3⟩ := Cond.arrayOver_spec (hts _ ao_shelf)
  refine ⟨(fun k => match k with | 0 => cX0 | 1 => cX1 | 2 => cX2 | 3 => cX3 | 4 => cX4 | 5 => cX5 | 6 => cX6 | 7 => cX7 | 8 => cX8 | 9 => cX9 | 10 => cX10 | 11 => cX11 | _ => cX12, fun k => match k with | 0 => iX0 | 1 => iX1 | 2 => iX2 | 3 => iX3 | 4 => iX4 | 5 => iX5 | 6 => iX6 | 7 => iX7 | 8 => iX8 | 9 => iX9 | 10 => iX10 | 11 => iX11 | _ => iX12), fun k => match k with | 0 => a0 | 1 => a1 | 2 => a2 | _ => a3, ?_, ?_⟩
  · intro k q hq
    match k, hq with
    | 0, hq => cases hq; exact hX0
    | 1, hq => cases hq; exact hX1
    | 2, hq => cases hq; exact hX2
    | 3, hq => cases hq; exact hX3
    | 4, hq => cases hq; exact hX4
    | 5, hq => cases hq; exact hX5
    | 6, hq => cases hq; exact hX6
    | 7, hq => cases hq; exact hX7
    | 8, hq => cases hq; exact hX8
    | 9, hq => cases hq; exact hX9
    | 10, hq => cases hq; exact hX10
    | 11, hq => cases hq; exact hX11
    | 12, hq => cases hq; exact hX12
    | k + 13, hq => simp [vwCl] at hq
  · intro k q hq
    match k, hq with
    | 0, hq => cases hq; exact ⟨fun n z => ⟨fun k h => (by cases h), k0, q0, m0, r0⟩, p0⟩
    | 1, hq => cases hq; exact ⟨fun n z => ⟨fun k h => (by cases h), k1, q1, m1, r1⟩, p1⟩
    | 2, hq => cases hq; exact ⟨fun n z => ⟨fun k h => (by cases h), k2, q2, m2, r2⟩, p2⟩
    | 3, hq => cases hq; exact ⟨fun n z => ⟨fun k h => (by cases h), k3, q3, m3, r3⟩, k3, m3, q3, r3, o3, p3⟩
    | k + 4, hq => simp at hq
def stm (i : Nat) : Term := match i with
  | 0 => .string RX9 57
  | 1 => .string RX9 63
  | 2 => .string RX9 65
  | 3 => .string RX9 81
  | 4 => .string RX12 124
  | 5 => .string RX12 126
  | 6 => .string RX12 128
  | _ => .string RX12 130
theorem tw_cs : Cond.laysStatic "java/lang/String" "COMPACT_STRINGS" "Z" ∈ lw_tbl := tc_3 _ (List.mem_of_getElem? (i := 96) (by decide +kernel))
theorem tw_fm : Cond.laysStatic "jdk/internal/util/Preconditions" "SIOOBE_FORMATTER" "Ljava/util/function/BiFunction;" ∈ lw_tbl := tc_3 _ (List.mem_of_getElem? (i := 112) (by decide +kernel))
set_option maxRecDepth 100000 in
set_option maxHeartbeats 4000000 in
theorem start_X {s : State} {b : Addr} {D : va_G} {cy : Nat → ClassId} (hts : ∀ w ∈ lw_tbl, w.before #[Value.ref b] s = true) (hgv : (Jvm.Cond.and given_1 narrow_1).before #[Value.ref b] s = true) : ∃ adK adV : Nat → Nat, XS (D, cy, adK, adV) (fun q : Nat => s.heap.size ≤ q) s s.heap := by
  have hs := flat_of_before _ hgv
  have hA : ∀ a : Nat, a < s.heap.size → ¬ (fun q : Nat => s.heap.size ≤ q) a := fun a h => Nat.not_le.mpr h
  have hne : ∀ i j : Nat, i < 8 → j < 8 → i ≠ j → (Cond.not (Cond.eq (stm i) (stm j))).before #[Value.ref b] s = true ∨ (Cond.not (Cond.eq (stm j) (stm i))).before #[Value.ref b] s = true := by
    intro i j hi hj hij
    match i, hi, j, hj, hij with
    | 0, _, 0, _, h => exact absurd rfl h
    | 0, _, 1, _, _ => exact Or.inl (hs _ (by decide +kernel))
    | 0, _, 2, _, _ => exact Or.inl (hs _ (by decide +kernel))
    | 0, _, 3, _, _ => exact Or.inl (hs _ (by decide +kernel))
    | 0, _, 4, _, _ => exact Or.inl (hs _ (by decide +kernel))
    | 0, _, 5, _, _ => exact Or.inl (hs _ (by decide +kernel))
    | 0, _, 6, _, _ => exact Or.inl (hs _ (by decide +kernel))
    | 0, _, 7, _, _ => exact Or.inl (hs _ (by decide +kernel))
    | 1, _, 0, _, _ => exact Or.inr (hs _ (by decide +kernel))
    | 1, _, 1, _, h => exact absurd rfl h
    | 1, _, 2, _, _ => exact Or.inl (hs _ (by decide +kernel))
    | 1, _, 3, _, _ => exact Or.inl (hs _ (by decide +kernel))
    | 1, _, 4, _, _ => exact Or.inl (hs _ (by decide +kernel))
    | 1, _, 5, _, _ => exact Or.inl (hs _ (by decide +kernel))
    | 1, _, 6, _, _ => exact Or.inl (hs _ (by decide +kernel))
    | 1, _, 7, _, _ => exact Or.inl (hs _ (by decide +kernel))
    | 2, _, 0, _, _ => exact Or.inr (hs _ (by decide +kernel))
    | 2, _, 1, _, _ => exact Or.inr (hs _ (by decide +kernel))
    | 2, _, 2, _, h => exact absurd rfl h
    | 2, _, 3, _, _ => exact Or.inl (hs _ (by decide +kernel))
    | 2, _, 4, _, _ => exact Or.inl (hs _ (by decide +kernel))
    | 2, _, 5, _, _ => exact Or.inl (hs _ (by decide +kernel))
    | 2, _, 6, _, _ => exact Or.inl (hs _ (by decide +kernel))
    | 2, _, 7, _, _ => exact Or.inl (hs _ (by decide +kernel))
    | 3, _, 0, _, _ => exact Or.inr (hs _ (by decide +kernel))
    | 3, _, 1, _, _ => exact Or.inr (hs _ (by decide +kernel))
    | 3, _, 2, _, _ => exact Or.inr (hs _ (by decide +kernel))
    | 3, _, 3, _, h => exact absurd rfl h
    | 3, _, 4, _, _ => exact Or.inl (hs _ (by decide +kernel))
    | 3, _, 5, _, _ => exact Or.inl (hs _ (by decide +kernel))
    | 3, _, 6, _, _ => exact Or.inl (hs _ (by decide +kernel))
    | 3, _, 7, _, _ => exact Or.inl (hs _ (by decide +kernel))
    | 4, _, 0, _, _ => exact Or.inr (hs _ (by decide +kernel))
    | 4, _, 1, _, _ => exact Or.inr (hs _ (by decide +kernel))
    | 4, _, 2, _, _ => exact Or.inr (hs _ (by decide +kernel))
    | 4, _, 3, _, _ => exact Or.inr (hs _ (by decide +kernel))
    | 4, _, 4, _, h => exact absurd rfl h
    | 4, _, 5, _, _ => exact Or.inl (hs _ (by decide +kernel))
    | 4, _, 6, _, _ => exact Or.inl (hs _ (by decide +kernel))
    | 4, _, 7, _, _ => exact Or.inl (hs _ (by decide +kernel))
    | 5, _, 0, _, _ => exact Or.inr (hs _ (by decide +kernel))
    | 5, _, 1, _, _ => exact Or.inr (hs _ (by decide +kernel))
    | 5, _, 2, _, _ => exact Or.inr (hs _ (by decide +kernel))
    | 5, _, 3, _, _ => exact Or.inr (hs _ (by decide +kernel))
    | 5, _, 4, _, _ => exact Or.inr (hs _ (by decide +kernel))
    | 5, _, 5, _, h => exact absurd rfl h
    | 5, _, 6, _, _ => exact Or.inl (hs _ (by decide +kernel))
    | 5, _, 7, _, _ => exact Or.inl (hs _ (by decide +kernel))
    | 6, _, 0, _, _ => exact Or.inr (hs _ (by decide +kernel))
    | 6, _, 1, _, _ => exact Or.inr (hs _ (by decide +kernel))
    | 6, _, 2, _, _ => exact Or.inr (hs _ (by decide +kernel))
    | 6, _, 3, _, _ => exact Or.inr (hs _ (by decide +kernel))
    | 6, _, 4, _, _ => exact Or.inr (hs _ (by decide +kernel))
    | 6, _, 5, _, _ => exact Or.inr (hs _ (by decide +kernel))
    | 6, _, 6, _, h => exact absurd rfl h
    | 6, _, 7, _, _ => exact Or.inl (hs _ (by decide +kernel))
    | 7, _, 0, _, _ => exact Or.inr (hs _ (by decide +kernel))
    | 7, _, 1, _, _ => exact Or.inr (hs _ (by decide +kernel))
    | 7, _, 2, _, _ => exact Or.inr (hs _ (by decide +kernel))
    | 7, _, 3, _, _ => exact Or.inr (hs _ (by decide +kernel))
    | 7, _, 4, _, _ => exact Or.inr (hs _ (by decide +kernel))
    | 7, _, 5, _, _ => exact Or.inr (hs _ (by decide +kernel))
    | 7, _, 6, _, _ => exact Or.inr (hs _ (by decide +kernel))
    | 7, _, 7, _, h => exact absurd rfl h
  obtain ⟨adK, adV, hS, hev⟩ := vk_Sof (args := #[Value.ref b]) (s := s) (N := 8) (tm := stm) (len := sLen) (byt := sByt) (A := fun q : Nat => s.heap.size ≤ q) (by decide)
    (fun i hi => match i, hi with
      | 0, _ => hs _ (by decide +kernel)
      | 1, _ => hs _ (by decide +kernel)
      | 2, _ => hs _ (by decide +kernel)
      | 3, _ => hs _ (by decide +kernel)
      | 4, _ => hs _ (by decide +kernel)
      | 5, _ => hs _ (by decide +kernel)
      | 6, _ => hs _ (by decide +kernel)
      | 7, _ => hs _ (by decide +kernel))
    (fun i hi => match i, hi with
      | 0, _ => hs _ (by decide +kernel)
      | 1, _ => hs _ (by decide +kernel)
      | 2, _ => hs _ (by decide +kernel)
      | 3, _ => hs _ (by decide +kernel)
      | 4, _ => hs _ (by decide +kernel)
      | 5, _ => hs _ (by decide +kernel)
      | 6, _ => hs _ (by decide +kernel)
      | 7, _ => hs _ (by decide +kernel))
    (fun i hi => match i, hi with
      | 0, _ => hs _ (by decide +kernel)
      | 1, _ => hs _ (by decide +kernel)
      | 2, _ => hs _ (by decide +kernel)
      | 3, _ => hs _ (by decide +kernel)
      | 4, _ => hs _ (by decide +kernel)
      | 5, _ => hs _ (by decide +kernel)
      | 6, _ => hs _ (by decide +kernel)
      | 7, _ => hs _ (by decide +kernel))
    (fun i hi => match i, hi with
      | 0, _ => hs _ (by decide +kernel)
      | 1, _ => hs _ (by decide +kernel)
      | 2, _ => hs _ (by decide +kernel)
      | 3, _ => hs _ (by decide +kernel)
      | 4, _ => hs _ (by decide +kernel)
      | 5, _ => hs _ (by decide +kernel)
      | 6, _ => hs _ (by decide +kernel)
      | 7, _ => hs _ (by decide +kernel))
    (fun i hi => match i, hi with
      | 0, _ => fun j hj => match j, hj with
        | 0, _ => hs _ (by decide +kernel)
        | 1, _ => hs _ (by decide +kernel)
        | 2, _ => hs _ (by decide +kernel)
        | 3, _ => hs _ (by decide +kernel)
        | 4, _ => hs _ (by decide +kernel)
        | j + 5, hj => absurd hj (by simp [sLen])
      | 1, _ => fun j hj => match j, hj with
        | 0, _ => hs _ (by decide +kernel)
        | 1, _ => hs _ (by decide +kernel)
        | 2, _ => hs _ (by decide +kernel)
        | 3, _ => hs _ (by decide +kernel)
        | j + 4, hj => absurd hj (by simp [sLen])
      | 2, _ => fun j hj => match j, hj with
        | 0, _ => hs _ (by decide +kernel)
        | 1, _ => hs _ (by decide +kernel)
        | 2, _ => hs _ (by decide +kernel)
        | j + 3, hj => absurd hj (by simp [sLen])
      | 3, _ => fun j hj => match j, hj with
        | 0, _ => hs _ (by decide +kernel)
        | 1, _ => hs _ (by decide +kernel)
        | 2, _ => hs _ (by decide +kernel)
        | j + 3, hj => absurd hj (by simp [sLen])
      | 4, _ => fun j hj => match j, hj with
        | 0, _ => hs _ (by decide +kernel)
        | 1, _ => hs _ (by decide +kernel)
        | 2, _ => hs _ (by decide +kernel)
        | 3, _ => hs _ (by decide +kernel)
        | 4, _ => hs _ (by decide +kernel)
        | 5, _ => hs _ (by decide +kernel)
        | j + 6, hj => absurd hj (by simp [sLen])
      | 5, _ => fun j hj => match j, hj with
        | 0, _ => hs _ (by decide +kernel)
        | 1, _ => hs _ (by decide +kernel)
        | 2, _ => hs _ (by decide +kernel)
        | 3, _ => hs _ (by decide +kernel)
        | 4, _ => hs _ (by decide +kernel)
        | j + 5, hj => absurd hj (by simp [sLen])
      | 6, _ => fun j hj => match j, hj with
        | 0, _ => hs _ (by decide +kernel)
        | 1, _ => hs _ (by decide +kernel)
        | 2, _ => hs _ (by decide +kernel)
        | 3, _ => hs _ (by decide +kernel)
        | j + 4, hj => absurd hj (by simp [sLen])
      | 7, _ => fun j hj => match j, hj with
        | 0, _ => hs _ (by decide +kernel)
        | 1, _ => hs _ (by decide +kernel)
        | 2, _ => hs _ (by decide +kernel)
        | 3, _ => hs _ (by decide +kernel)
        | j + 4, hj => absurd hj (by simp [sLen]))
    hne hA
  refine ⟨adK, adV, hS, va_Zof (hts _ (tw_cs)) (hts _ (List.mem_filter.mp in_J0).1) (va_eqt (hs _ (by decide +kernel))) hA, va_Zqof (hts _ tw_fm) (hts _ (List.mem_filter.mp in_J3).1) (hs _ (by decide +kernel)) hA, ?_⟩
  intro q hq
  obtain ⟨i, hi⟩ := List.getElem?_of_mem hq
  match i, hi with
  | 0, hi => cases hi; exact vk_R.of (hts _ sr_X9_57) (hev 0 (by decide))
  | 1, hi => cases hi; exact vk_R.of (hts _ sr_X9_63) (hev 1 (by decide))
  | 2, hi => cases hi; exact vk_R.of (hts _ sr_X9_65) (hev 2 (by decide))
  | 3, hi => cases hi; exact vk_R.of (hts _ sr_X9_81) (hev 3 (by decide))
  | 4, hi => cases hi; exact vk_R.of (hts _ sr_X12_124) (hev 4 (by decide))
  | 5, hi => cases hi; exact vk_R.of (hts _ sr_X12_126) (hev 5 (by decide))
  | 6, hi => cases hi; exact vk_R.of (hts _ sr_X12_128) (hev 6 (by decide))
  | 7, hi => cases hi; exact vk_R.of (hts _ sr_X12_130) (hev 7 (by decide))
  | i + 8, hi => simp [sRef] at hi
set_option maxRecDepth 100000 in
set_option maxHeartbeats 4000000 in
theorem start_all {p : Program} {e : Env} {s : State} {m : MethodId} {args : Array Value} {below : List Frame} {meth : Method} {c : Code} {Q : State → Prop} {n L bs : Nat} {xs : Nat → Int32} {Rel : SC → SC → Prop} (l : Launch) (hL : L ≤ 3072) (h0 : Rel σ0C τ0M) (ag : Agr n Rel) (hx : p.tables.exec = Jvm.exec) (hb : c.code = code) (hml : c.maxLocals = 4) (hown : s.vm.findClass RL = some m.cls) (hts : ∀ w ∈ lw_tbl, w.before #[Value.ref bs] s = true) (hargs : args = #[Value.ref bs]) (hX : va_X bs L xs s s.heap) (hbl : bs < s.heap.size) (hgv : (Jvm.Cond.and given_1 narrow_1).before #[Value.ref bs] s = true)
    (hend : ∀ (H : Heap) (locs : List Loc) (ls : Array Slot), va_S (fun q : Nat => s.heap.size ≤ q) s.heap H locs → W p l e room_1 s m args below meth c H locs 64 15156 Q (F0 m 1422 ls [])) (ls : Array Slot) (hl : lv_has ls 4 [(0, .ref bs)]) : W p l e room_1 s m args below meth c s.heap [] 0 0 Q (F0 m 0 ls []) := by
  subst hargs
  have S : CallFix p m c code 4 s #[Value.ref bs] GW RL := ⟨hx, hb, hml, hown, fun w h => hts w (List.mem_filter.mp h).1⟩
  obtain ⟨D, cy, hK⟩ := start_K hts
  obtain ⟨adK, adV, hXS⟩ := start_X (D := D) (cy := cy) hts hgv
  obtain ⟨G, eG⟩ : ∃ G : EN, G = (D, cy, adK, adV) := ⟨_, rfl⟩
  rw [← eG] at hXS
  have hNX : NX s := ⟨va_Nw.of rfl (hts _ lk_X11_11), va_Nw.of rfl (hts _ lk_X11_72), va_Nw.of rfl (hts _ lk_X11_103), va_AO.of (hts _ ao_shelf)⟩
  have hbA : ¬ (fun q : Nat => s.heap.size ≤ q) bs := Nat.not_le.mpr hbl
  have hW : WS G (fun q : Nat => s.heap.size ≤ q) s [] s.heap [] := ⟨by rw [eG]; exact hK, fun k q h => by simp at h, ⟨fun i j p q h => by simp at h, fun k q h => by simp at h⟩, va_S.rf, fun _ h => h, hXS⟩
  refine x_new (ci := 11) (fs := [.null, .null, .null, .null, .null, .null, .null, .null, .null, .null, .null, .int 0, .int 0, .int 0, .int 0, .int 0, .int 0]) S hW lk_L_7 nw_X11 in_X11 giX11 tyX11_ok rfl (fun j hj => by revert j; exact fs_X11) (Nat.le_of_ble_eq_true rfl) (Nat.le_of_ble_eq_true rfl) dL_law_0 (fun q0 H hW => ?_)
  have hW : WS G (fun q : Nat => s.heap.size ≤ q) s ([(q0, .inr (11, [.null, .null, .null, .null, .null, .null, .null, .null, .null, .null, .null, .int 0, .int 0, .int 0, .int 0, .int 0, .int 0]))] ++ []) H _ := hW
  refine lv_dup hx hb dL_law_3 rfl ?_
  refine ctor_back (wr := []) hW (run_I (As := []) (a := q0) (rest := [.ref q0]) (rm := rmcX11) (mc := 46) (ms := 4776) S hNX hW (cn_X11 l G _ q0) mn_X11 lk_L_9 rfl rfl hl (Nat.le_of_ble_eq_true rfl) dL_law_4 ⟨Nat.le_of_ble_eq_true rfl, Nat.le_of_ble_eq_true rfl⟩ rfl rfl ⟨Nat.le_of_ble_eq_true rfl, Nat.le_of_ble_eq_true rfl⟩) (fun u1 H locs hW => ?_)
  have hW : WS G (fun q : Nat => s.heap.size ≤ q) s (wC G (ad q0 u1) σ0C ++ []) H locs := start_C (wr := []) hW
  rw [List.append_nil] at hW
  refine lv_astore_n (lv' := [(1, .ref q0), (0, .ref bs)]) hx hb dL_law_7 rfl hl (by decide) rfl (fun ls hl => ?_)
  refine x_new (ci := 12) (fs := [.int 0, .null, .null, .int 0, .null, .null, .null, .null, .null, .int 0, .int 0, .int 0, .int 0, .int 0, .null, .null, .null, .int 0, .null, .null, .null, .null, .int 0, .null, .int 0, .int 0, .int 0, .null, .int 0]) S hW lk_L_10 nw_X12 in_X12 giX12 tyX12_ok rfl (fun j hj => by revert j; exact fs_X12) (Nat.le_of_ble_eq_true rfl) (Nat.le_of_ble_eq_true rfl) dL_law_8 (fun q1 H hW => ?_)
  refine lv_dup hx hb dL_law_11 rfl ?_
  refine ctor_back (WS.swap hW) (run_I (As := []) (a := q1) (rest := [.ref q1]) (rm := rmcX12) (mc := 16) (ms := 10334) S hNX (WS.swap hW) (cn_X12 l G _ q1) mn_X12 lk_L_12 rfl rfl hl (Nat.le_of_ble_eq_true rfl) dL_law_12 ⟨Nat.le_of_ble_eq_true rfl, Nat.le_of_ble_eq_true rfl⟩ rfl rfl ⟨Nat.le_of_ble_eq_true rfl, Nat.le_of_ble_eq_true rfl⟩) (fun u2 H locs hW => ?_)
  have hW : WS G (fun q : Nat => s.heap.size ≤ q) s (wC G (ad q0 u1) σ0C ++ wM G (ad q1 u2) τ0M) H locs := WS.swap (w1 := wM G (ad q1 u2) τ0M) hW
  refine lv_astore_n (lv' := [(2, .ref q1), (1, .ref q0), (0, .ref bs)]) hx hb dL_law_15 rfl hl (by decide) rfl (fun ls hl => ?_)
  refine lv_iconst (v := 0) hx hb dL_law_16 (by decide) ?_
  refine lv_istore_n (lv' := [(3, .int 0), (2, .ref q1), (1, .ref q0), (0, .ref bs)]) hx hb dL_law_17 rfl hl (by decide) rfl (fun ls hl => ?_)
  refine law_loop (A1 := ad q0 u1) (A2 := ad q1 u2) S hX hbl hbA hL ⟨Nat.le_of_ble_eq_true rfl, Nat.le_of_ble_eq_true rfl⟩ ag hend (L + 7) 0 σ0C τ0M _ _ _ (by omega) (by omega) h0 hW (lv_sub hl [3, 2, 1, 0] rfl)

