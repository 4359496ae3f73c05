def rmX1_ofAll : Room := { frames := 0, cells := 0, slots := 0, locals := 0 }
def LX1_ofAll_4 (σ : SC) (y1 : Int32) (K : Int32 → Option Int32) : Nat → Int32 → Int32 → Option Int32
  | 0, _, _ => none
  | k + 1, y2, y3 => if 30 ≤ y3 then K y2 else if ((y1.toUInt32 >>> (y3.toUInt32 &&& Int32.toUInt32 31)).toInt32) = 0 then K y2 else if (y1 &&& (1 <<< (y3 &&& 31))) = 0 then lt (y3 + 1) (fun v8 => LX1_ofAll_4 σ y1 K k y2 v8) else if (gi σ 9) = 0 then ld (ga σ 9) 30 y3 (fun v1 => if v1 ≤ y2 then lt (y3 + 1) (fun v2 => LX1_ofAll_4 σ y1 K k y2 v2) else ld (ga σ 9) 30 y3 (fun v3 => lt (y3 + 1) (fun v4 => LX1_ofAll_4 σ y1 K k v3 v4))) else ld (ga σ 9) 30 y3 (fun v5 => lt (y2 + v5) (fun v6 => lt (y3 + 1) (fun v7 => LX1_ofAll_4 σ y1 K k v6 v7)))
def f_X1_ofAll (n : Nat) (σ : SC) (a1 : Int32) : Option Int32 := LX1_ofAll_4 σ a1 (fun w9 => if w9 ≤ 1000000 then some w9 else some 1000000) n 0 0
theorem mi_X1_ofAll : MI yX1_ofAll cX1_ofAll 4 (some .int) 1 := ⟨im_X1_ofAll, se_X1_ofAll, in_X1, co_X1_ofAll, by decide, by decide, by decide +kernel⟩
set_option maxRecDepth 100000 in
set_option maxHeartbeats 4000000 in
theorem ct_X1_ofAll (l : Launch) (n : Nat) (G : EN) (A : Nat → Nat) (σ : SC) (sz : Nat) (a1 : Int32) {r0 : Int32} (h : f_X1_ofAll n σ a1 = some r0) : CT l yX1_ofAll cX1_ofAll 4 (some .int) rmX1_ofAll G sz [.ref (A 14), .int a1] (wC G A σ) (QI G (va_A (wC G A σ) sz) r0 (wC G A σ)) := by
  unfold f_X1_ofAll at h
  refine CI.intro (lv := [(0, .ref (A 14)), (1, .int a1)]) (by decide) (Nat.le_of_ble_eq_true rfl) rfl ?_
  intro p e s m args below meth c Q B S hret H locs ls hW hl
  have hx := S.1
  have hb := S.2.1
  refine lv_iconst (v := 0) hx hb dX1_ofAll_0 (by decide) ?_
  refine lv_istore_n (lv' := [(2, .int 0), (0, .ref (A 14)), (1, .int a1)]) hx hb dX1_ofAll_1 rfl hl (by decide) rfl (fun ls hl => ?_)
  refine lv_iconst (v := 0) hx hb dX1_ofAll_2 (by decide) ?_
  refine lv_istore_n (lv' := [(3, .int 0), (2, .int 0), (0, .ref (A 14)), (1, .int a1)]) hx hb dX1_ofAll_3 rfl hl (by decide) rfl (fun ls hl => ?_)
  have hL4 : ∀ (y1 : Int32) (K : Int32 → Option Int32), (∀ (z2 : Int32) (H : Heap) (locs : List Loc) (ls : Array Slot), WS G B s (wC G A σ) H locs → lv_has ls 4 [(2, .int z2)] → K z2 = some r0 → W p l e rmX1_ofAll s m args below meth c H locs 0 0 Q (F0 m 69 ls [])) → ∀ (k : Nat)  (y2 : Int32) (y3 : Int32)  (H : Heap) (locs : List Loc) (ls : Array Slot), WS G B s (wC G A σ) H locs → lv_has ls 4 [(0, .ref (A 14)), (1, .int y1), (2, .int y2), (3, .int y3)] → LX1_ofAll_4 σ y1 K k y2 y3 = some r0 → W p l e rmX1_ofAll s m args below meth c H locs 0 0 Q (F0 m 4 ls []) := by
    intro y1 K hK k
    induction k with
    | zero => intro y2 y3 H locs ls hW hl h; rw [LX1_ofAll_4] at h; cases h
    | succ k ih =>
      intro y2 y3 H locs ls hW hl h
      rw [LX1_ofAll_4] at h
      refine lv_iload_n hx hb dX1_ofAll_4 rfl (lv_at hl 3 rfl) ?_
      refine lv_bipush (v := 30) hx hb dX1_ofAll_5 (by decide) ?_
      refine bc_ge (tgt := 69) hx hb h dX1_ofAll_7 (by decide) (fun _ h => ?_) (fun _ h => ?_)
      · exact hK y2 _ _ _ hW (lv_sub hl [2] rfl) h
      · refine lv_iload_n hx hb dX1_ofAll_10 rfl (lv_at hl 1 rfl) ?_
        refine lv_iload_n hx hb dX1_ofAll_11 rfl (lv_at hl 3 rfl) ?_
        refine lv_iushr hx hb dX1_ofAll_12 rfl ?_
        refine bz_eq (tgt := 69) hx hb h dX1_ofAll_13 (by decide) (fun _ h => ?_) (fun _ h => ?_)
        · exact hK y2 _ _ _ hW (lv_sub hl [2] rfl) h
        · refine lv_iload_n hx hb dX1_ofAll_16 rfl (lv_at hl 1 rfl) ?_
          refine lv_iconst (v := 1) hx hb dX1_ofAll_17 (by decide) ?_
          refine lv_iload_n hx hb dX1_ofAll_18 rfl (lv_at hl 3 rfl) ?_
          refine lv_ishl hx hb dX1_ofAll_19 ?_
          refine lv_iand hx hb dX1_ofAll_20 ?_
          refine bz_ne (tgt := 27) hx hb h dX1_ofAll_21 (by decide) (fun _ h => ?_) (fun _ h => ?_)
          · refine lv_goto (tgt := 63) hx hb dX1_ofAll_24 (by decide) ?_
            refine w_iinc (lv' := [(0, .ref (A 14)), (1, .int y1), (2, .int y2)]) hx hb dX1_ofAll_63 hl (k := 3) rfl (by decide) (by decide) rfl h (fun v8 ls hl h => ?_)
            refine lv_goto (tgt := 4) hx hb dX1_ofAll_66 (by decide) ?_
            exact ih y2 v8 _ _ _ hW (lv_sub hl [1, 2, 3, 0] rfl) h
          · refine lv_aload_n hx hb dX1_ofAll_27 rfl (lv_at hl 0 rfl) ?_
            refine gC_X1_summed S hW lk_X1_19 dX1_ofAll_28 ?_
            refine bz_eq (tgt := 46) hx hb h dX1_ofAll_31 (by decide) (fun _ h => ?_) (fun _ h => ?_)
            · refine lv_aload_n hx hb dX1_ofAll_46 rfl (lv_at hl 0 rfl) ?_
              refine gC_X1_costs S hW lk_X1_9 dX1_ofAll_47 ?_
              refine lv_iload_n hx hb dX1_ofAll_50 rfl (lv_at hl 3 rfl) ?_
              refine aC_15 S hW h dX1_ofAll_51 (fun v1 _ h => ?_)
              refine lv_iload_n hx hb dX1_ofAll_52 rfl (lv_at hl 2 rfl) ?_
              refine bc_le (tgt := 63) hx hb h dX1_ofAll_53 (by decide) (fun _ h => ?_) (fun _ h => ?_)
              · refine w_iinc (lv' := [(0, .ref (A 14)), (1, .int y1), (2, .int y2)]) hx hb dX1_ofAll_63 hl (k := 3) rfl (by decide) (by decide) rfl h (fun v2 ls hl h => ?_)
                refine lv_goto (tgt := 4) hx hb dX1_ofAll_66 (by decide) ?_
                exact ih y2 v2 _ _ _ hW (lv_sub hl [1, 2, 3, 0] rfl) h
              · refine lv_aload_n hx hb dX1_ofAll_56 rfl (lv_at hl 0 rfl) ?_
                refine gC_X1_costs S hW lk_X1_9 dX1_ofAll_57 ?_
                refine lv_iload_n hx hb dX1_ofAll_60 rfl (lv_at hl 3 rfl) ?_
                refine aC_15 S hW h dX1_ofAll_61 (fun v3 _ h => ?_)
                refine lv_istore_n (lv' := [(2, .int v3), (0, .ref (A 14)), (1, .int y1), (3, .int y3)]) hx hb dX1_ofAll_62 rfl hl (by decide) rfl (fun ls hl => ?_)
                refine w_iinc (lv' := [(2, .int v3), (0, .ref (A 14)), (1, .int y1)]) hx hb dX1_ofAll_63 hl (k := 3) rfl (by decide) (by decide) rfl h (fun v4 ls hl h => ?_)
                refine lv_goto (tgt := 4) hx hb dX1_ofAll_66 (by decide) ?_
                exact ih v3 v4 _ _ _ hW (lv_sub hl [2, 3, 1, 0] rfl) h
            · refine lv_iload_n hx hb dX1_ofAll_34 rfl (lv_at hl 2 rfl) ?_
              refine lv_aload_n hx hb dX1_ofAll_35 rfl (lv_at hl 0 rfl) ?_
              refine gC_X1_costs S hW lk_X1_9 dX1_ofAll_36 ?_
              refine lv_iload_n hx hb dX1_ofAll_39 rfl (lv_at hl 3 rfl) ?_
              refine aC_15 S hW h dX1_ofAll_40 (fun v5 _ h => ?_)
              refine lv_iadd hx hb dX1_ofAll_41 ?_
              refine nm_i h (fun v6 h => ?_)
              refine lv_istore_n (lv' := [(2, .int v6), (0, .ref (A 14)), (1, .int y1), (3, .int y3)]) hx hb dX1_ofAll_42 rfl hl (by decide) rfl (fun ls hl => ?_)
              refine lv_goto (tgt := 63) hx hb dX1_ofAll_43 (by decide) ?_
              refine w_iinc (lv' := [(2, .int v6), (0, .ref (A 14)), (1, .int y1)]) hx hb dX1_ofAll_63 hl (k := 3) rfl (by decide) (by decide) rfl h (fun v7 ls hl h => ?_)
              refine lv_goto (tgt := 4) hx hb dX1_ofAll_66 (by decide) ?_
              exact ih v6 v7 _ _ _ hW (lv_sub hl [2, 3, 1, 0] rfl) h
  refine hL4 a1 _ (fun w9 H locs ls hW hl h => ?_) n 0 0 _ _ _ hW (lv_sub hl [2, 3, 1, 0] rfl) h
  refine lv_iload_n hx hb dX1_ofAll_69 rfl (lv_at hl 0 rfl) ?_
  refine lv_ldc (v := 1000000) hx hb S.2.2.2.1 (S.2.2.2.2 _ lk_X1_52) dX1_ofAll_70 ?_
  refine bc_le (tgt := 80) hx hb h dX1_ofAll_72 (by decide) (fun _ h => ?_) (fun _ h => ?_)
  · refine lv_iload_n hx hb dX1_ofAll_80 rfl (lv_at hl 0 rfl) ?_
    exact hret H locs _ ls _ (Option.some.inj h) rfl hW dX1_ofAll_81
  · refine lv_ldc (v := 1000000) hx hb S.2.2.2.1 (S.2.2.2.2 _ lk_X1_52) dX1_ofAll_75 ?_
    refine lv_goto (tgt := 81) hx hb dX1_ofAll_77 (by decide) ?_
    exact hret H locs _ ls _ (Option.some.inj h) rfl hW dX1_ofAll_81
def rmX1_costBy : Room := { frames := 12, cells := 0, slots := 0, locals := 400 }
def f_X1_costBy (n : Nat) (σ : SC) (a1 : Int32) : Option Int32 := ld (ga σ 0) 24 a1 (fun v1 => bd (f_X1_ofAll n σ v1) (fun v3 => ld (ga σ 3) 24 a1 (fun v4 => some (if (v3 + v4) < 1000000 then (v3 + v4) else 1000000))))
theorem mi_X1_costBy : MI yX1_costBy cX1_costBy 2 (some .int) 1 := ⟨im_X1_costBy, se_X1_costBy, in_X1, co_X1_costBy, by decide, by decide, by decide +kernel⟩
set_option maxRecDepth 100000 in
set_option maxHeartbeats 4000000 in
theorem ct_X1_costBy (l : Launch) (n : Nat) (G : EN) (A : Nat → Nat) (σ : SC) (sz : Nat) (a1 : Int32) {r0 : Int32} (h : f_X1_costBy n σ a1 = some r0) : CT l yX1_costBy cX1_costBy 2 (some .int) rmX1_costBy G sz [.ref (A 14), .int a1] (wC G A σ) (QI G (va_A (wC G A σ) sz) r0 (wC G A σ)) := by
  unfold f_X1_costBy at h
  refine CI.intro (lv := [(0, .ref (A 14)), (1, .int a1)]) (by decide) (Nat.le_of_ble_eq_true rfl) rfl ?_
  intro p e s m args below meth c Q B S hret H locs ls hW hl
  have hx := S.1
  have hb := S.2.1
  refine lv_ldc (v := 1000000) hx hb S.2.2.2.1 (S.2.2.2.2 _ lk_X1_52) dX1_costBy_0 ?_
  refine lv_aload_n hx hb dX1_costBy_2 rfl (lv_at hl 0 rfl) ?_
  refine lv_aload_n hx hb dX1_costBy_3 rfl (lv_at hl 0 rfl) ?_
  refine gC_X1_table S hW lk_X1_23 dX1_costBy_4 ?_
  refine gC_X0_needs S hW lk_X1_53 dX1_costBy_7 ?_
  refine lv_iload_n hx hb dX1_costBy_10 rfl (lv_at hl 1 rfl) ?_
  refine aC_2 S hW h dX1_costBy_11 (fun v1 _ h => ?_)
  obtain ⟨v3, h2, h⟩ := bd_o h
  refine back_i (rest := [.int 1000000]) hW (run_V S hW (ct_X1_ofAll l n G A σ _ v1 h2) mi_X1_ofAll lk_X1_56 (eC_14 G A σ) rfl rfl rfl hl (Nat.le_of_ble_eq_true rfl) dX1_costBy_12 ⟨Nat.le_of_ble_eq_true rfl, Nat.le_of_ble_eq_true rfl⟩ rfl rfl) (fun H locs hW => ?_)
  refine lv_aload_n hx hb dX1_costBy_15 rfl (lv_at hl 0 rfl) ?_
  refine gC_X1_table S hW lk_X1_23 dX1_costBy_16 ?_
  refine gC_X0_costs S hW lk_X1_59 dX1_costBy_19 ?_
  refine lv_iload_n hx hb dX1_costBy_22 rfl (lv_at hl 1 rfl) ?_
  refine aC_5 S hW h dX1_costBy_23 (fun v4 _ h => ?_)
  refine lv_iadd hx hb dX1_costBy_24 ?_
  refine va_mmin (rest := []) hx hb (S.2.2.1.trans hl.1.symm) S.2.2.2.1 (S.2.2.2.2 _ lk_X1_60) (S.2.2.2.2 _ sm_Mmin) (S.2.2.2.2 _ in_J9) (S.2.2.2.2 _ co_Mmin) (Nat.le_of_ble_eq_true rfl) (Nat.le_of_ble_eq_true rfl) (Nat.zero_le _) (Nat.zero_le _) dX1_costBy_25 ?_
  exact hret H locs _ ls _ (Option.some.inj h) rfl hW dX1_costBy_28
def rmX1_lower : Room := { frames := 0, cells := 0, slots := 0, locals := 0 }
def LX1_lower_5 (y1 : Int32) (y2 : Int32) (K : SC → Int32 → Option (Int32 × SC)) : Nat → SC → Int32 → Int32 → Option (Int32 × SC)
  | 0, _, _, _ => none
  | k + 1, σ, y3, y4 => if 30 ≤ y4 then K σ y3 else if ((y1.toUInt32 >>> (y4.toUInt32 &&& Int32.toUInt32 31)).toInt32) = 0 then K σ y3 else lt (1 <<< (y4 &&& 31)) (fun v1 => if (y1 &&& v1) = 0 then lt (y4 + 1) (fun v2 => LX1_lower_5 y1 y2 K k σ y3 v2) else jn (fun (_ : Unit) => ck 30 y4 (lt (sa σ 9 (upd (ga σ 9) y4.toNatClampNeg y2)) (fun σ4 => lt (si σ4 8 ((gi σ4 8) ||| v1)) (fun σ5 => lt (y4 + 1) (fun v6 => LX1_lower_5 y1 y2 K k σ5 1 v6))))) (fun J3 => if ((gi σ 8) &&& v1) = 0 then J3 () else ld (ga σ 9) 30 y4 (fun v7 => if v7 ≤ y2 then lt (y4 + 1) (fun v8 => LX1_lower_5 y1 y2 K k σ y3 v8) else J3 ())))
def f_X1_lower (n : Nat) (σ : SC) (a1 : Int32) (a2 : Int32) : Option (Int32 × SC) := LX1_lower_5 a1 a2 (fun σ9 w10 => zb w10 (some (w10, σ9))) n σ 0 0
theorem mi_X1_lower : MI yX1_lower cX1_lower 6 (some .boolean) 2 := ⟨im_X1_lower, se_X1_lower, in_X1, co_X1_lower, by decide, by decide, by decide +kernel⟩
set_option maxRecDepth 100000 in
set_option maxHeartbeats 4000000 in
theorem ct_X1_lower (l : Launch) (n : Nat) (G : EN) (A : Nat → Nat) (σ : SC) (sz : Nat) (a1 : Int32) (a2 : Int32) {r0 : Int32} {σ0 : SC} (h : f_X1_lower n σ a1 a2 = some (r0, σ0)) : CT l yX1_lower cX1_lower 6 (some .boolean) rmX1_lower G sz [.ref (A 14), .int a1, .int a2] (wC G A σ) (QI G (va_A (wC G A σ) sz) r0 (wC G A σ0)) := by
  unfold f_X1_lower at h
  refine CI.intro (lv := [(0, .ref (A 14)), (1, .int a1), (2, .int a2)]) (by decide) (Nat.le_of_ble_eq_true rfl) rfl ?_
  intro p e s m args below meth c Q B S hret H locs ls hW hl
  have hx := S.1
  have hb := S.2.1
  refine lv_iconst (v := 0) hx hb dX1_lower_0 (by decide) ?_
  refine lv_istore_n (lv' := [(3, .int 0), (0, .ref (A 14)), (1, .int a1), (2, .int a2)]) hx hb dX1_lower_1 rfl hl (by decide) rfl (fun ls hl => ?_)
  refine lv_iconst (v := 0) hx hb dX1_lower_2 (by decide) ?_
  refine lv_istore (lv' := [(4, .int 0), (3, .int 0), (0, .ref (A 14)), (1, .int a1), (2, .int a2)]) hx hb dX1_lower_3 hl (by decide) rfl (fun ls hl => ?_)
  have hL5 : ∀ (y1 : Int32) (y2 : Int32) (K : SC → Int32 → Option (Int32 × SC)), (∀ (σ : SC) (z3 : Int32) (H : Heap) (locs : List Loc) (ls : Array Slot), WS G B s (wC G A σ) H locs → lv_has ls 6 [(3, .int z3)] → K σ z3 = some (r0, σ0) → W p l e rmX1_lower s m args below meth c H locs 0 0 Q (F0 m 80 ls [])) → ∀ (k : Nat) (σ : SC) (y3 : Int32) (y4 : Int32)  (H : Heap) (locs : List Loc) (ls : Array Slot), WS G B s (wC G A σ) H locs → lv_has ls 6 [(0, .ref (A 14)), (1, .int y1), (2, .int y2), (3, .int y3), (4, .int y4)] → LX1_lower_5 y1 y2 K k σ y3 y4 = some (r0, σ0) → W p l e rmX1_lower s m args below meth c H locs 0 0 Q (F0 m 5 ls []) := by
    intro y1 y2 K hK k
    induction k with
    | zero => intro σ y3 y4 H locs ls hW hl h; rw [LX1_lower_5] at h; cases h
    | succ k ih =>
      intro σ y3 y4 H locs ls hW hl h
      rw [LX1_lower_5] at h
      refine lv_iload hx hb dX1_lower_5 (lv_at hl 4 rfl) ?_
      refine lv_bipush (v := 30) hx hb dX1_lower_7 (by decide) ?_
      refine bc_ge (tgt := 80) hx hb h dX1_lower_9 (by decide) (fun _ h => ?_) (fun _ h => ?_)
      · exact hK σ y3 _ _ _ hW (lv_sub hl [3] rfl) h
      · refine lv_iload_n hx hb dX1_lower_12 rfl (lv_at hl 1 rfl) ?_
        refine lv_iload hx hb dX1_lower_13 (lv_at hl 4 rfl) ?_
        refine lv_iushr hx hb dX1_lower_15 rfl ?_
        refine bz_eq (tgt := 80) hx hb h dX1_lower_16 (by decide) (fun _ h => ?_) (fun _ h => ?_)
        · exact hK σ y3 _ _ _ hW (lv_sub hl [3] rfl) h
        · refine lv_iconst (v := 1) hx hb dX1_lower_19 (by decide) ?_
          refine lv_iload hx hb dX1_lower_20 (lv_at hl 4 rfl) ?_
          refine lv_ishl hx hb dX1_lower_22 ?_
          refine nm_i h (fun v1 h => ?_)
          refine lv_istore (lv' := [(5, .int v1), (0, .ref (A 14)), (1, .int y1), (2, .int y2), (3, .int y3), (4, .int y4)]) hx hb dX1_lower_23 hl (by decide) rfl (fun ls hl => ?_)
          refine lv_iload_n hx hb dX1_lower_25 rfl (lv_at hl 2 rfl) ?_
          refine lv_iload hx hb dX1_lower_26 (lv_at hl 0 rfl) ?_
          refine lv_iand hx hb dX1_lower_28 ?_
          refine bz_eq (tgt := 74) hx hb h dX1_lower_29 (by decide) (fun _ h => ?_) (fun _ h => ?_)
          · refine w_iinc (lv' := [(5, .int v1), (0, .ref (A 14)), (1, .int y1), (2, .int y2), (3, .int y3)]) hx hb dX1_lower_74 hl (k := 5) rfl (by decide) (by decide) rfl h (fun v2 ls hl h => ?_)
            refine lv_goto (tgt := 5) hx hb dX1_lower_77 (by decide) ?_
            exact ih σ y3 v2 _ _ _ hW (lv_sub hl [2, 3, 4, 5, 0] rfl) h
          · refine lv_aload_n hx hb dX1_lower_32 rfl (lv_at hl 1 rfl) ?_
            refine gC_X1_known S hW lk_X1_15 dX1_lower_33 ?_
            refine lv_iload hx hb dX1_lower_36 (lv_at hl 0 rfl) ?_
            refine lv_iand hx hb dX1_lower_38 ?_
            obtain ⟨J3, eJ3, h⟩ := jn_o h
            have hJ3 : ∀   (H : Heap) (locs : List Loc) (ls : Array Slot), WS G B s (wC G A σ) H locs → lv_has ls 6 [(0, .ref (A 14)), (1, .int y1), (2, .int y2), (4, .int y4), (5, .int v1)] → J3 () = some (r0, σ0) → W p l e rmX1_lower s m args below meth c H locs 0 0 Q (F0 m 53 ls []) := by
              subst eJ3
              intro  H locs ls hW hl h
              refine lv_aload_n hx hb dX1_lower_53 rfl (lv_at hl 0 rfl) ?_
              refine gC_X1_costs S hW lk_X1_9 dX1_lower_54 ?_
              refine lv_iload hx hb dX1_lower_57 (lv_at hl 3 rfl) ?_
              refine lv_iload_n hx hb dX1_lower_59 rfl (lv_at hl 2 rfl) ?_
              refine sC_15 S hW h dX1_lower_60 (fun σ4 H locs eσ4 _ h hW => ?_)
              have h := lt_at eσ4 h
              refine lv_aload_n hx hb dX1_lower_61 rfl (lv_at hl 0 rfl) ?_
              refine lv_dup hx hb dX1_lower_62 rfl ?_
              refine gC_X1_known S hW lk_X1_15 dX1_lower_63 ?_
              refine lv_iload hx hb dX1_lower_66 (lv_at hl 4 rfl) ?_
              refine lv_ior hx hb dX1_lower_68 ?_
              refine pC_X1_known S hW lk_X1_15 dX1_lower_69 (fun σ5 H locs eσ5 hW => ?_)
              have h := lt_at eσ5 h
              refine lv_iconst (v := 1) hx hb dX1_lower_72 (by decide) ?_
              refine lv_istore_n (lv' := [(3, .int 1), (0, .ref (A 14)), (1, .int y1), (2, .int y2), (4, .int y4), (5, .int v1)]) hx hb dX1_lower_73 rfl hl (by decide) rfl (fun ls hl => ?_)
              refine w_iinc (lv' := [(3, .int 1), (0, .ref (A 14)), (1, .int y1), (2, .int y2), (5, .int v1)]) hx hb dX1_lower_74 hl (k := 4) rfl (by decide) (by decide) rfl h (fun v6 ls hl h => ?_)
              refine lv_goto (tgt := 5) hx hb dX1_lower_77 (by decide) ?_
              exact ih σ5 1 v6 _ _ _ hW (lv_sub hl [2, 3, 4, 1, 0] rfl) h
            clear eJ3
            refine bz_eq (tgt := 53) hx hb h dX1_lower_39 (by decide) (fun _ h => ?_) (fun _ h => ?_)
            · exact hJ3  _ _ _ hW (lv_sub hl [1, 2, 3, 5, 0] rfl) h
            · refine lv_iload_n hx hb dX1_lower_42 rfl (lv_at hl 3 rfl) ?_
              refine lv_aload_n hx hb dX1_lower_43 rfl (lv_at hl 1 rfl) ?_
              refine gC_X1_costs S hW lk_X1_9 dX1_lower_44 ?_
              refine lv_iload hx hb dX1_lower_47 (lv_at hl 5 rfl) ?_
              refine aC_15 S hW h dX1_lower_49 (fun v7 _ h => ?_)
              refine bc_ge (tgt := 74) hx hb h dX1_lower_50 (by decide) (fun _ h => ?_) (fun _ h => ?_)
              · refine w_iinc (lv' := [(5, .int v1), (0, .ref (A 14)), (1, .int y1), (2, .int y2), (3, .int y3)]) hx hb dX1_lower_74 hl (k := 5) rfl (by decide) (by decide) rfl h (fun v8 ls hl h => ?_)
                refine lv_goto (tgt := 5) hx hb dX1_lower_77 (by decide) ?_
                exact ih σ y3 v8 _ _ _ hW (lv_sub hl [2, 3, 4, 5, 0] rfl) h
              · exact hJ3  _ _ _ hW (lv_sub hl [1, 2, 3, 5, 0] rfl) h
  refine hL5 a1 a2 _ (fun σ9 w10 H locs ls hW hl h => ?_) n σ 0 0 _ _ _ hW (lv_sub hl [2, 3, 4, 1, 0] rfl) h
  refine lv_iload_n hx hb dX1_lower_80 rfl (lv_at hl 0 rfl) ?_
  obtain ⟨hz11, h⟩ := zb_o h
  exact ret_is (wf := wC G A) hret h (nar_z hz11) hW dX1_lower_81
def rmX1_settle : Room := { frames := 13, cells := 0, slots := 0, locals := 421 }
def LX1_settle_40 (n : Nat) (y1 : Int32) (K : SC → Int32 → Option SC) : Nat → SC → Int32 → Int32 → Option SC
  | 0, _, _, _ => none
  | k + 1, σ, y3, y5 => if (gi σ 6) ≤ y5 then K σ y3 else bd (f_X0_isAllowed σ (gi σ 8) y5) (fun v6 => if v6 = 0 then lt (y5 + 1) (fun v7 => LX1_settle_40 n y1 K k σ y3 v7) else ld (ga σ 1) 24 y5 (fun v8 => bd (f_X1_costBy n σ y5) (fun v10 => bd2 (f_X1_lower n σ (v8 &&& (y1 ^^^ (-1))) v10) (fun v13 σ12 => if v13 = 0 then lt (y5 + 1) (fun v14 => LX1_settle_40 n y1 K k σ12 y3 v14) else lt (y5 + 1) (fun v15 => LX1_settle_40 n y1 K k σ12 1 v15)))))
def LX1_settle_23 (n : Nat) (y1 : Int32) (K : SC → Option SC) : Nat → SC → Int32 → Int32 → Option SC
  | 0, _, _, _ => none
  | k + 1, σ, y3, y4 => if y3 = 0 then K σ else if 1000 ≤ y4 then K σ else LX1_settle_40 n y1 (fun σ16 w17 => lt (y4 + 1) (fun v18 => LX1_settle_23 n y1 K k σ16 w17 v18)) n σ 0 0
def f_X1_settle (n : Nat) (σ : SC) (a1 : Int32) (a2 : Int32) : Option SC := zb a2 (lt (si σ 9 a2) (fun σ1 => lt (si σ1 8 a1) (fun σ3 => lt (sa σ3 9 (fun _ => 0)) (fun σ4 => LX1_settle_23 n a1 (fun σ19 => some σ19) n σ4 1 0))))
theorem mi_X1_settle : MI yX1_settle cX1_settle 6 none 2 := ⟨im_X1_settle, se_X1_settle, in_X1, co_X1_settle, by decide, by decide, by decide +kernel⟩
set_option maxRecDepth 100000 in
set_option maxHeartbeats 4000000 in
theorem ct_X1_settle (l : Launch) (n : Nat) (G : EN) (A : Nat → Nat) (σ : SC) (sz : Nat) (a1 : Int32) (a2 : Int32) {σ0 : SC} (h : f_X1_settle n σ a1 a2 = some σ0) : CT l yX1_settle cX1_settle 6 none rmX1_settle G sz [.ref (A 14), .int a1, .int a2] (wC G A σ) (QV G (va_A (wC G A σ) sz) (wC G A σ0)) := by
  unfold f_X1_settle at h
  refine CV.intro (lv := [(0, .ref (A 14)), (1, .int a1), (2, .int a2)]) (by decide) (Nat.le_of_ble_eq_true rfl) rfl ?_
  intro p e s m args below meth c Q B S hret H locs ls hW hl
  have hx := S.1
  have hb := S.2.1
  refine lv_aload_n hx hb dX1_settle_0 rfl (lv_at hl 0 rfl) ?_
  refine lv_iload_n hx hb dX1_settle_1 rfl (lv_at hl 2 rfl) ?_
  obtain ⟨hz2, h⟩ := zb_o h
  refine pC_X1_summed hz2 S hW lk_X1_19 dX1_settle_2 (fun σ1 H locs eσ1 hW => ?_)
  have h := lt_at eσ1 h
  refine lv_aload_n hx hb dX1_settle_5 rfl (lv_at hl 0 rfl) ?_
  refine lv_iload_n hx hb dX1_settle_6 rfl (lv_at hl 1 rfl) ?_
  refine pC_X1_known S hW lk_X1_15 dX1_settle_7 (fun σ3 H locs eσ3 hW => ?_)
  have h := lt_at eσ3 h
  refine lv_aload_n hx hb dX1_settle_10 rfl (lv_at hl 0 rfl) ?_
  refine gC_X1_costs S hW lk_X1_9 dX1_settle_11 ?_
  refine lv_iconst (v := 0) hx hb dX1_settle_14 (by decide) ?_
  refine back_v (rest := []) hW (run_S S hW (ct_fillI l G _ (eC_15 G A σ3) (uCa_9 G A σ3 _) (by decide)) ms_J7_fill_53178 lk_X1_27 rfl rfl hl (Nat.le_of_ble_eq_true rfl) dX1_settle_15 ⟨Nat.le_of_ble_eq_true rfl, Nat.le_of_ble_eq_true rfl⟩ rfl rfl) (fun H locs hW => ?_)
  obtain ⟨σ4, eσ4, h⟩ := lt_o h
  rw [← eσ4] at hW
  refine lv_iconst (v := 1) hx hb dX1_settle_18 (by decide) ?_
  refine lv_istore_n (lv' := [(3, .int 1), (0, .ref (A 14)), (1, .int a1), (2, .int a2)]) hx hb dX1_settle_19 rfl hl (by decide) rfl (fun ls hl => ?_)
  refine lv_iconst (v := 0) hx hb dX1_settle_20 (by decide) ?_
  refine lv_istore (lv' := [(4, .int 0), (3, .int 1), (0, .ref (A 14)), (1, .int a1), (2, .int a2)]) hx hb dX1_settle_21 hl (by decide) rfl (fun ls hl => ?_)
  have hL23 : ∀ (y1 : Int32) (K : SC → Option SC), (∀ (σ : SC) (H : Heap) (locs : List Loc) (ls : Array Slot), WS G B s (wC G A σ) H locs → lv_has ls 6 [] → K σ = some σ0 → W p l e rmX1_settle s m args below meth c H locs 0 0 Q (F0 m 109 ls [])) → ∀ (k : Nat) (σ : SC) (y3 : Int32) (y4 : Int32)  (H : Heap) (locs : List Loc) (ls : Array Slot), WS G B s (wC G A σ) H locs → lv_has ls 6 [(0, .ref (A 14)), (1, .int y1), (3, .int y3), (4, .int y4)] → LX1_settle_23 n y1 K k σ y3 y4 = some σ0 → W p l e rmX1_settle s m args below meth c H locs 0 0 Q (F0 m 23 ls []) := by
    intro y1 K hK k
    induction k with
    | zero => intro σ y3 y4 H locs ls hW hl h; rw [LX1_settle_23] at h; cases h
    | succ k ih =>
      intro σ y3 y4 H locs ls hW hl h
      rw [LX1_settle_23] at h
      refine lv_iload_n hx hb dX1_settle_23 rfl (lv_at hl 2 rfl) ?_
      refine bz_eq (tgt := 109) hx hb h dX1_settle_24 (by decide) (fun _ h => ?_) (fun _ h => ?_)
      · exact hK σ _ _ _ hW (lv_sub hl [] rfl) h
      · refine lv_iload hx hb dX1_settle_27 (lv_at hl 3 rfl) ?_
        refine lv_sipush (v := 1000) hx hb dX1_settle_29 (by decide) ?_
        refine bc_ge (tgt := 109) hx hb h dX1_settle_32 (by decide) (fun _ h => ?_) (fun _ h => ?_)
        · exact hK σ _ _ _ hW (lv_sub hl [] rfl) h
        · refine lv_iconst (v := 0) hx hb dX1_settle_35 (by decide) ?_
          refine lv_istore_n (lv' := [(3, .int 0), (0, .ref (A 14)), (1, .int y1), (4, .int y4)]) hx hb dX1_settle_36 rfl hl (by decide) rfl (fun ls hl => ?_)
          refine lv_iconst (v := 0) hx hb dX1_settle_37 (by decide) ?_
          refine lv_istore (lv' := [(5, .int 0), (3, .int 0), (0, .ref (A 14)), (1, .int y1), (4, .int y4)]) hx hb dX1_settle_38 hl (by decide) rfl (fun ls hl => ?_)
          have hL40 : ∀ (y1 : Int32) (y4 : Int32) (K : SC → Int32 → Option SC), (∀ (σ : SC) (z3 : Int32) (H : Heap) (locs : List Loc) (ls : Array Slot), WS G B s (wC G A σ) H locs → lv_has ls 6 [(0, .ref (A 14)), (1, .int y1), (3, .int z3), (4, .int y4)] → K σ z3 = some σ0 → W p l e rmX1_settle s m args below meth c H locs 0 0 Q (F0 m 103 ls [])) → ∀ (k : Nat) (σ : SC) (y3 : Int32) (y5 : Int32)  (H : Heap) (locs : List Loc) (ls : Array Slot), WS G B s (wC G A σ) H locs → lv_has ls 6 [(0, .ref (A 14)), (1, .int y1), (3, .int y3), (4, .int y4), (5, .int y5)] → LX1_settle_40 n y1 K k σ y3 y5 = some σ0 → W p l e rmX1_settle s m args below meth c H locs 0 0 Q (F0 m 40 ls []) := by
            intro y1 y4 K hK k
            induction k with
            | zero => intro σ y3 y5 H locs ls hW hl h; rw [LX1_settle_40] at h; cases h
            | succ k ih =>
              intro σ y3 y5 H locs ls hW hl h
              rw [LX1_settle_40] at h
              refine lv_iload hx hb dX1_settle_40 (lv_at hl 4 rfl) ?_
              refine lv_aload_n hx hb dX1_settle_42 rfl (lv_at hl 0 rfl) ?_
              refine gC_X1_table S hW lk_X1_23 dX1_settle_43 ?_
              refine gC_X0_count S hW lk_X1_33 dX1_settle_46 ?_
              refine bc_ge (tgt := 103) hx hb h dX1_settle_49 (by decide) (fun _ h => ?_) (fun _ h => ?_)
              · exact hK σ y3 _ _ _ hW (lv_sub hl [0, 1, 2, 3] rfl) h
              · refine lv_aload_n hx hb dX1_settle_52 rfl (lv_at hl 0 rfl) ?_
                refine gC_X1_table S hW lk_X1_23 dX1_settle_53 ?_
                refine lv_aload_n hx hb dX1_settle_56 rfl (lv_at hl 0 rfl) ?_
                refine gC_X1_known S hW lk_X1_15 dX1_settle_57 ?_
                refine lv_iload hx hb dX1_settle_60 (lv_at hl 4 rfl) ?_
                obtain ⟨v6, h5, h⟩ := bd_o h
                refine back_i (rest := []) hW (run_V S hW (ct_X0_isAllowed l G A σ _ (gi σ 8) y5 h5) mi_X0_isAllowed lk_X1_38 (eC_1 G A σ) rfl rfl rfl hl (Nat.le_of_ble_eq_true rfl) dX1_settle_62 ⟨Nat.le_of_ble_eq_true rfl, Nat.le_of_ble_eq_true rfl⟩ rfl rfl) (fun H locs hW => ?_)
                refine bz_eq (tgt := 97) hx hb h dX1_settle_65 (by decide) (fun _ h => ?_) (fun _ h => ?_)
                · refine w_iinc (lv' := [(0, .ref (A 14)), (1, .int y1), (3, .int y3), (4, .int y4)]) hx hb dX1_settle_97 hl (k := 4) rfl (by decide) (by decide) rfl h (fun v7 ls hl h => ?_)
                  refine lv_goto (tgt := 40) hx hb dX1_settle_100 (by decide) ?_
                  exact ih σ y3 v7 _ _ _ hW (lv_sub hl [1, 2, 3, 4, 0] rfl) h
                · refine lv_aload_n hx hb dX1_settle_68 rfl (lv_at hl 0 rfl) ?_
                  refine lv_aload_n hx hb dX1_settle_69 rfl (lv_at hl 0 rfl) ?_
                  refine gC_X1_table S hW lk_X1_23 dX1_settle_70 ?_
                  refine gC_X0_makes S hW lk_X1_42 dX1_settle_73 ?_
                  refine lv_iload hx hb dX1_settle_76 (lv_at hl 4 rfl) ?_
                  refine aC_3 S hW h dX1_settle_78 (fun v8 _ h => ?_)
                  refine lv_iload_n hx hb dX1_settle_79 rfl (lv_at hl 1 rfl) ?_
                  refine lv_iconst (v := (-1)) hx hb dX1_settle_80 (by decide) ?_
                  refine lv_ixor hx hb dX1_settle_81 ?_
                  refine lv_iand hx hb dX1_settle_82 ?_
                  refine lv_aload_n hx hb dX1_settle_83 rfl (lv_at hl 0 rfl) ?_
                  refine lv_iload hx hb dX1_settle_84 (lv_at hl 4 rfl) ?_
                  obtain ⟨v10, h9, h⟩ := bd_o h
                  refine back_i (rest := [.int (v8 &&& (y1 ^^^ (-1))), .ref (A 14)]) hW (run_V S hW (ct_X1_costBy l n G A σ _ y5 h9) mi_X1_costBy lk_X1_45 (eC_14 G A σ) rfl rfl rfl hl (Nat.le_of_ble_eq_true rfl) dX1_settle_86 ⟨Nat.le_of_ble_eq_true rfl, Nat.le_of_ble_eq_true rfl⟩ rfl rfl) (fun H locs hW => ?_)
                  obtain ⟨v13, σ12, h11, h⟩ := bd2_o h
                  refine back_i (rest := []) hW (run_V S hW (ct_X1_lower l n G A σ _ (v8 &&& (y1 ^^^ (-1))) v10 h11) mi_X1_lower lk_X1_49 (eC_14 G A σ) rfl rfl rfl hl (Nat.le_of_ble_eq_true rfl) dX1_settle_89 ⟨Nat.le_of_ble_eq_true rfl, Nat.le_of_ble_eq_true rfl⟩ rfl rfl) (fun H locs hW => ?_)
                  refine bz_eq (tgt := 97) hx hb h dX1_settle_92 (by decide) (fun _ h => ?_) (fun _ h => ?_)
                  · refine w_iinc (lv' := [(0, .ref (A 14)), (1, .int y1), (3, .int y3), (4, .int y4)]) hx hb dX1_settle_97 hl (k := 4) rfl (by decide) (by decide) rfl h (fun v14 ls hl h => ?_)
                    refine lv_goto (tgt := 40) hx hb dX1_settle_100 (by decide) ?_
                    exact ih σ12 y3 v14 _ _ _ hW (lv_sub hl [1, 2, 3, 4, 0] rfl) h
                  · refine lv_iconst (v := 1) hx hb dX1_settle_95 (by decide) ?_
                    refine lv_istore_n (lv' := [(3, .int 1), (0, .ref (A 14)), (1, .int y1), (4, .int y4), (5, .int y5)]) hx hb dX1_settle_96 rfl hl (by decide) rfl (fun ls hl => ?_)
                    refine w_iinc (lv' := [(3, .int 1), (0, .ref (A 14)), (1, .int y1), (4, .int y4)]) hx hb dX1_settle_97 hl (k := 4) rfl (by decide) (by decide) rfl h (fun v15 ls hl h => ?_)
                    refine lv_goto (tgt := 40) hx hb dX1_settle_100 (by decide) ?_
                    exact ih σ12 1 v15 _ _ _ hW (lv_sub hl [2, 3, 1, 4, 0] rfl) h
          refine hL40 y1 y4 _ (fun σ16 w17 H locs ls hW hl h => ?_) n σ 0 0 _ _ _ hW (lv_sub hl [2, 3, 1, 4, 0] rfl) h
          refine w_iinc (lv' := [(0, .ref (A 14)), (1, .int y1), (3, .int w17)]) hx hb dX1_settle_103 hl (k := 3) rfl (by decide) (by decide) rfl h (fun v18 ls hl h => ?_)
          refine lv_goto (tgt := 23) hx hb dX1_settle_106 (by decide) ?_
          exact ih σ16 w17 v18 _ _ _ hW (lv_sub hl [1, 2, 3, 0] rfl) h
  refine hL23 a1 _ (fun σ19 H locs ls hW hl h => ?_) n σ4 1 0 _ _ _ hW (lv_sub hl [2, 3, 1, 0] rfl) h
  exact ret_vs (wf := wC G A) hret h hW dX1_settle_109
def rmX3_madeFrom : Room := { frames := 1, cells := 0, slots := 0, locals := 22 }
def LX3_madeFrom_4 (σ : SC) (y1 : Int32) (K : Int32 → Option Int32) : Nat → Int32 → Int32 → Option Int32
  | 0, _, _ => none
  | k + 1, y2, y3 => if (gi σ 6) ≤ y3 then K y2 else bd (f_X0_isAllowed σ y1 y3) (fun v2 => if v2 = 0 then lt (y3 + 1) (fun v3 => LX3_madeFrom_4 σ y1 K k y2 v3) else ld (ga σ 1) 24 y3 (fun v4 => lt (y2 ||| v4) (fun v5 => lt (y3 + 1) (fun v6 => LX3_madeFrom_4 σ y1 K k v5 v6))))
def f_X3_madeFrom (n : Nat) (σ : SC) (a1 : Int32) : Option Int32 := LX3_madeFrom_4 σ a1 (fun w7 => some w7) n 0 0
theorem mi_X3_madeFrom : MI yX3_madeFrom cX3_madeFrom 4 (some .int) 1 := ⟨im_X3_madeFrom, se_X3_madeFrom, in_X3, co_X3_madeFrom, by decide, by decide, by decide +kernel⟩
set_option maxRecDepth 100000 in
set_option maxHeartbeats 4000000 in
theorem ct_X3_madeFrom (l : Launch) (n : Nat) (G : EN) (A : Nat → Nat) (σ : SC) (sz : Nat) (a1 : Int32) {r0 : Int32} (h : f_X3_madeFrom n σ a1 = some r0) : CT l yX3_madeFrom cX3_madeFrom 4 (some .int) rmX3_madeFrom G sz [.ref (A 11), .int a1] (wC G A σ) (QI G (va_A (wC G A σ) sz) r0 (wC G A σ)) := by
  unfold f_X3_madeFrom at h
  refine CI.intro (lv := [(0, .ref (A 11)), (1, .int a1)]) (by decide) (Nat.le_of_ble_eq_true rfl) rfl ?_
  intro p e s m args below meth c Q B S hret H locs ls hW hl
  have hx := S.1
  have hb := S.2.1
  refine lv_iconst (v := 0) hx hb dX3_madeFrom_0 (by decide) ?_
  refine lv_istore_n (lv' := [(2, .int 0), (0, .ref (A 11)), (1, .int a1)]) hx hb dX3_madeFrom_1 rfl hl (by decide) rfl (fun ls hl => ?_)
  refine lv_iconst (v := 0) hx hb dX3_madeFrom_2 (by decide) ?_
  refine lv_istore_n (lv' := [(3, .int 0), (2, .int 0), (0, .ref (A 11)), (1, .int a1)]) hx hb dX3_madeFrom_3 rfl hl (by decide) rfl (fun ls hl => ?_)
  have hL4 : ∀ (y1 : Int32) (K : Int32 → Option Int32), (∀ (z2 : Int32) (H : Heap) (locs : List Loc) (ls : Array Slot), WS G B s (wC G A σ) H locs → lv_has ls 4 [(2, .int z2)] → K z2 = some r0 → W p l e rmX3_madeFrom s m args below meth c H locs 0 0 Q (F0 m 45 ls [])) → ∀ (k : Nat)  (y2 : Int32) (y3 : Int32)  (H : Heap) (locs : List Loc) (ls : Array Slot), WS G B s (wC G A σ) H locs → lv_has ls 4 [(0, .ref (A 11)), (1, .int y1), (2, .int y2), (3, .int y3)] → LX3_madeFrom_4 σ y1 K k y2 y3 = some r0 → W p l e rmX3_madeFrom s m args below meth c H locs 0 0 Q (F0 m 4 ls []) := by
    intro y1 K hK k
    induction k with
    | zero => intro y2 y3 H locs ls hW hl h; rw [LX3_madeFrom_4] at h; cases h
    | succ k ih =>
      intro y2 y3 H locs ls hW hl h
      rw [LX3_madeFrom_4] at h
      refine lv_iload_n hx hb dX3_madeFrom_4 rfl (lv_at hl 3 rfl) ?_
      refine lv_aload_n hx hb dX3_madeFrom_5 rfl (lv_at hl 0 rfl) ?_
      refine gC_X3_table S hW lk_X3_19 dX3_madeFrom_6 ?_
      refine gC_X0_count S hW lk_X3_27 dX3_madeFrom_9 ?_
      refine bc_ge (tgt := 45) hx hb h dX3_madeFrom_12 (by decide) (fun _ h => ?_) (fun _ h => ?_)
      · exact hK y2 _ _ _ hW (lv_sub hl [2] rfl) h
      · refine lv_aload_n hx hb dX3_madeFrom_15 rfl (lv_at hl 0 rfl) ?_
        refine gC_X3_table S hW lk_X3_19 dX3_madeFrom_16 ?_
        refine lv_iload_n hx hb dX3_madeFrom_19 rfl (lv_at hl 1 rfl) ?_
        refine lv_iload_n hx hb dX3_madeFrom_20 rfl (lv_at hl 3 rfl) ?_
        obtain ⟨v2, h1, h⟩ := bd_o h
        refine back_i (rest := []) hW (run_V S hW (ct_X0_isAllowed l G A σ _ y1 y3 h1) mi_X0_isAllowed lk_X3_32 (eC_1 G A σ) rfl rfl rfl hl (Nat.le_of_ble_eq_true rfl) dX3_madeFrom_21 ⟨Nat.le_of_ble_eq_true rfl, Nat.le_of_ble_eq_true rfl⟩ rfl rfl) (fun H locs hW => ?_)
        refine bz_eq (tgt := 39) hx hb h dX3_madeFrom_24 (by decide) (fun _ h => ?_) (fun _ h => ?_)
        · refine w_iinc (lv' := [(0, .ref (A 11)), (1, .int y1), (2, .int y2)]) hx hb dX3_madeFrom_39 hl (k := 3) rfl (by decide) (by decide) rfl h (fun v3 ls hl h => ?_)
          refine lv_goto (tgt := 4) hx hb dX3_madeFrom_42 (by decide) ?_
          exact ih y2 v3 _ _ _ hW (lv_sub hl [1, 2, 3, 0] rfl) h
        · refine lv_iload_n hx hb dX3_madeFrom_27 rfl (lv_at hl 2 rfl) ?_
          refine lv_aload_n hx hb dX3_madeFrom_28 rfl (lv_at hl 0 rfl) ?_
          refine gC_X3_table S hW lk_X3_19 dX3_madeFrom_29 ?_
          refine gC_X0_makes S hW lk_X3_36 dX3_madeFrom_32 ?_
          refine lv_iload_n hx hb dX3_madeFrom_35 rfl (lv_at hl 3 rfl) ?_
          refine aC_3 S hW h dX3_madeFrom_36 (fun v4 _ h => ?_)
          refine lv_ior hx hb dX3_madeFrom_37 ?_
          refine nm_i h (fun v5 h => ?_)
          refine lv_istore_n (lv' := [(2, .int v5), (0, .ref (A 11)), (1, .int y1), (3, .int y3)]) hx hb dX3_madeFrom_38 rfl hl (by decide) rfl (fun ls hl => ?_)
          refine w_iinc (lv' := [(2, .int v5), (0, .ref (A 11)), (1, .int y1)]) hx hb dX3_madeFrom_39 hl (k := 3) rfl (by decide) (by decide) rfl h (fun v6 ls hl h => ?_)
          refine lv_goto (tgt := 4) hx hb dX3_madeFrom_42 (by decide) ?_
          exact ih v5 v6 _ _ _ hW (lv_sub hl [2, 3, 1, 0] rfl) h
  refine hL4 a1 _ (fun w7 H locs ls hW hl h => ?_) n 0 0 _ _ _ hW (lv_sub hl [2, 3, 1, 0] rfl) h
  refine lv_iload_n hx hb dX3_madeFrom_45 rfl (lv_at hl 0 rfl) ?_
  exact hret H locs _ ls _ (Option.some.inj h) rfl hW dX3_madeFrom_46
def rmX3_spread : Room := { frames := 2, cells := 0, slots := 0, locals := 45 }
def LX3_spread_18 (n : Nat) (y2 : Int32) (K : SC → Option SC) : Nat → SC → Int32 → Option SC
  | 0, _, _ => none
  | k + 1, σ, y3 => if 30 ≤ y3 then K σ else ld (ga σ 8) 31 y3 (fun v3 => ld (ga σ 8) 31 y3 (fun v4 => bd (f_X3_madeFrom n σ v4) (fun v6 => lt (v3 ||| (v6 &&& (y2 ^^^ (-1)))) (fun v7 => ld (ga σ 8) 31 y3 (fun v8 => if v7 = v8 then K σ else lt (si σ 7 (y3 + 1)) (fun σ9 => ck 31 (gi σ9 7) (lt (sa σ9 8 (upd (ga σ9 8) (gi σ9 7).toNatClampNeg v7)) (fun σ10 => lt (y3 + 1) (fun v11 => LX3_spread_18 n y2 K k σ10 v11)))))))))
def f_X3_spread (n : Nat) (σ : SC) (a1 : Int32) (a2 : Int32) : Option SC := lt (si σ 7 0) (fun σ1 => ck 31 0 (lt (sa σ1 8 (upd (ga σ1 8) (0 : Int32).toNatClampNeg (a1 &&& (a2 ^^^ (-1))))) (fun σ2 => LX3_spread_18 n a2 (fun σ12 => some σ12) n σ2 0)))
theorem mi_X3_spread : MI yX3_spread cX3_spread 5 none 2 := ⟨im_X3_spread, se_X3_spread, in_X3, co_X3_spread, by decide, by decide, by decide +kernel⟩
set_option maxRecDepth 100000 in
set_option maxHeartbeats 4000000 in
theorem ct_X3_spread (l : Launch) (n : Nat) (G : EN) (A : Nat → Nat) (σ : SC) (sz : Nat) (a1 : Int32) (a2 : Int32) {σ0 : SC} (h : f_X3_spread n σ a1 a2 = some σ0) : CT l yX3_spread cX3_spread 5 none rmX3_spread G sz [.ref (A 11), .int a1, .int a2] (wC G A σ) (QV G (va_A (wC G A σ) sz) (wC G A σ0)) := by
  unfold f_X3_spread at h
  refine CV.intro (lv := [(0, .ref (A 11)), (1, .int a1), (2, .int a2)]) (by decide) (Nat.le_of_ble_eq_true rfl) rfl ?_
  intro p e s m args below meth c Q B S hret H locs ls hW hl
  have hx := S.1
  have hb := S.2.1
  refine lv_aload_n hx hb dX3_spread_0 rfl (lv_at hl 0 rfl) ?_
  refine lv_iconst (v := 0) hx hb dX3_spread_1 (by decide) ?_
  refine pC_X3_last S hW lk_X3_15 dX3_spread_2 (fun σ1 H locs eσ1 hW => ?_)
  have h := lt_at eσ1 h
  refine lv_aload_n hx hb dX3_spread_5 rfl (lv_at hl 0 rfl) ?_
  refine gC_X3_sets S hW lk_X3_9 dX3_spread_6 ?_
  refine lv_iconst (v := 0) hx hb dX3_spread_9 (by decide) ?_
  refine lv_iload_n hx hb dX3_spread_10 rfl (lv_at hl 1 rfl) ?_
  refine lv_iload_n hx hb dX3_spread_11 rfl (lv_at hl 2 rfl) ?_
  refine lv_iconst (v := (-1)) hx hb dX3_spread_12 (by decide) ?_
  refine lv_ixor hx hb dX3_spread_13 ?_
  refine lv_iand hx hb dX3_spread_14 ?_
  refine sC_12 S hW h dX3_spread_15 (fun σ2 H locs eσ2 _ h hW => ?_)
  have h := lt_at eσ2 h
  refine lv_iconst (v := 0) hx hb dX3_spread_16 (by decide) ?_
  refine lv_istore_n (lv' := [(3, .int 0), (0, .ref (A 11)), (1, .int a1), (2, .int a2)]) hx hb dX3_spread_17 rfl hl (by decide) rfl (fun ls hl => ?_)
  have hL18 : ∀ (y2 : Int32) (K : SC → Option SC), (∀ (σ : SC) (H : Heap) (locs : List Loc) (ls : Array Slot), WS G B s (wC G A σ) H locs → lv_has ls 5 [] → K σ = some σ0 → W p l e rmX3_spread s m args below meth c H locs 0 0 Q (F0 m 85 ls [])) → ∀ (k : Nat) (σ : SC) (y3 : Int32)  (H : Heap) (locs : List Loc) (ls : Array Slot), WS G B s (wC G A σ) H locs → lv_has ls 5 [(0, .ref (A 11)), (2, .int y2), (3, .int y3)] → LX3_spread_18 n y2 K k σ y3 = some σ0 → W p l e rmX3_spread s m args below meth c H locs 0 0 Q (F0 m 18 ls []) := by
    intro y2 K hK k
    induction k with
    | zero => intro σ y3 H locs ls hW hl h; rw [LX3_spread_18] at h; cases h
    | succ k ih =>
      intro σ y3 H locs ls hW hl h
      rw [LX3_spread_18] at h
      refine lv_iload_n hx hb dX3_spread_18 rfl (lv_at hl 2 rfl) ?_
      refine lv_bipush (v := 30) hx hb dX3_spread_19 (by decide) ?_
      refine bc_ge (tgt := 85) hx hb h dX3_spread_21 (by decide) (fun _ h => ?_) (fun _ h => ?_)
      · exact hK σ _ _ _ hW (lv_sub hl [] rfl) h
      · refine lv_aload_n hx hb dX3_spread_24 rfl (lv_at hl 0 rfl) ?_
        refine gC_X3_sets S hW lk_X3_9 dX3_spread_25 ?_
        refine lv_iload_n hx hb dX3_spread_28 rfl (lv_at hl 2 rfl) ?_
        refine aC_12 S hW h dX3_spread_29 (fun v3 _ h => ?_)
        refine lv_aload_n hx hb dX3_spread_30 rfl (lv_at hl 0 rfl) ?_
        refine lv_aload_n hx hb dX3_spread_31 rfl (lv_at hl 0 rfl) ?_
        refine gC_X3_sets S hW lk_X3_9 dX3_spread_32 ?_
        refine lv_iload_n hx hb dX3_spread_35 rfl (lv_at hl 2 rfl) ?_
        refine aC_12 S hW h dX3_spread_36 (fun v4 _ h => ?_)
        obtain ⟨v6, h5, h⟩ := bd_o h
        refine back_i (rest := [.int v3]) hW (run_V S hW (ct_X3_madeFrom l n G A σ _ v4 h5) mi_X3_madeFrom lk_X3_23 (eC_11 G A σ) rfl rfl rfl hl (Nat.le_of_ble_eq_true rfl) dX3_spread_37 ⟨Nat.le_of_ble_eq_true rfl, Nat.le_of_ble_eq_true rfl⟩ rfl rfl) (fun H locs hW => ?_)
        refine lv_iload_n hx hb dX3_spread_40 rfl (lv_at hl 1 rfl) ?_
        refine lv_iconst (v := (-1)) hx hb dX3_spread_41 (by decide) ?_
        refine lv_ixor hx hb dX3_spread_42 ?_
        refine lv_iand hx hb dX3_spread_43 ?_
        refine lv_ior hx hb dX3_spread_44 ?_
        refine nm_i h (fun v7 h => ?_)
        refine lv_istore (lv' := [(4, .int v7), (0, .ref (A 11)), (2, .int y2), (3, .int y3)]) hx hb dX3_spread_45 hl (by decide) rfl (fun ls hl => ?_)
        refine lv_iload hx hb dX3_spread_47 (lv_at hl 0 rfl) ?_
        refine lv_aload_n hx hb dX3_spread_49 rfl (lv_at hl 1 rfl) ?_
        refine gC_X3_sets S hW lk_X3_9 dX3_spread_50 ?_
        refine lv_iload_n hx hb dX3_spread_53 rfl (lv_at hl 3 rfl) ?_
        refine aC_12 S hW h dX3_spread_54 (fun v8 _ h => ?_)
        refine bc_ne (tgt := 61) hx hb h dX3_spread_55 (by decide) (fun _ h => ?_) (fun _ h => ?_)
        · refine lv_goto (tgt := 85) hx hb dX3_spread_58 (by decide) ?_
          exact hK σ _ _ _ hW (lv_sub hl [] rfl) h
        · refine lv_aload_n hx hb dX3_spread_61 rfl (lv_at hl 1 rfl) ?_
          refine lv_iload_n hx hb dX3_spread_62 rfl (lv_at hl 3 rfl) ?_
          refine lv_iconst (v := 1) hx hb dX3_spread_63 (by decide) ?_
          refine lv_iadd hx hb dX3_spread_64 ?_
          refine pC_X3_last S hW lk_X3_15 dX3_spread_65 (fun σ9 H locs eσ9 hW => ?_)
          have h := lt_at eσ9 h
          refine lv_aload_n hx hb dX3_spread_68 rfl (lv_at hl 1 rfl) ?_
          refine gC_X3_sets S hW lk_X3_9 dX3_spread_69 ?_
          refine lv_aload_n hx hb dX3_spread_72 rfl (lv_at hl 1 rfl) ?_
          refine gC_X3_last S hW lk_X3_15 dX3_spread_73 ?_
          refine lv_iload hx hb dX3_spread_76 (lv_at hl 0 rfl) ?_
          refine sC_12 S hW h dX3_spread_78 (fun σ10 H locs eσ10 _ h hW => ?_)
          have h := lt_at eσ10 h
          refine w_iinc (lv' := [(4, .int v7), (0, .ref (A 11)), (2, .int y2)]) hx hb dX3_spread_79 hl (k := 3) rfl (by decide) (by decide) rfl h (fun v11 ls hl h => ?_)
          refine lv_goto (tgt := 18) hx hb dX3_spread_82 (by decide) ?_
          exact ih σ10 v11 _ _ _ hW (lv_sub hl [2, 3, 0] rfl) h
  refine hL18 a2 _ (fun σ12 H locs ls hW hl h => ?_) n σ2 0 _ _ _ hW (lv_sub hl [1, 3, 0] rfl) h
  exact ret_vs (wf := wC G A) hret h hW dX3_spread_85
def rmX3_firstWith : Room := { frames := 0, cells := 0, slots := 0, locals := 0 }
def LX3_firstWith_2 (σ : SC) (y1 : Int32) (K : Unit → Option Int32) : Nat → Int32 → Option Int32
  | 0, _ => none
  | k + 1, y2 => if (gi σ 7) < y2 then K () else ld (ga σ 8) 31 y2 (fun v1 => if (y1 &&& (v1 ^^^ (-1))) = 0 then some y2 else lt (y2 + 1) (fun v2 => LX3_firstWith_2 σ y1 K k v2))
def f_X3_firstWith (n : Nat) (σ : SC) (a1 : Int32) : Option Int32 := LX3_firstWith_2 σ a1 (fun _ => some (-1)) n 0
theorem mi_X3_firstWith : MI yX3_firstWith cX3_firstWith 3 (some .int) 1 := ⟨im_X3_firstWith, se_X3_firstWith, in_X3, co_X3_firstWith, by decide, by decide, by decide +kernel⟩
set_option maxRecDepth 100000 in
set_option maxHeartbeats 4000000 in
theorem ct_X3_firstWith (l : Launch) (n : Nat) (G : EN) (A : Nat → Nat) (σ : SC) (sz : Nat) (a1 : Int32) {r0 : Int32} (h : f_X3_firstWith n σ a1 = some r0) : CT l yX3_firstWith cX3_firstWith 3 (some .int) rmX3_firstWith G sz [.ref (A 11), .int a1] (wC G A σ) (QI G (va_A (wC G A σ) sz) r0 (wC G A σ)) := by
  unfold f_X3_firstWith at h
  refine CI.intro (lv := [(0, .ref (A 11)), (1, .int a1)]) (by decide) (Nat.le_of_ble_eq_true rfl) rfl ?_
  intro p e s m args below meth c Q B S hret H locs ls hW hl
  have hx := S.1
  have hb := S.2.1
  refine lv_iconst (v := 0) hx hb dX3_firstWith_0 (by decide) ?_
  refine lv_istore_n (lv' := [(2, .int 0), (0, .ref (A 11)), (1, .int a1)]) hx hb dX3_firstWith_1 rfl hl (by decide) rfl (fun ls hl => ?_)
  have hL2 : ∀ (y1 : Int32) (K : Unit → Option Int32), (∀  (H : Heap) (locs : List Loc) (ls : Array Slot), WS G B s (wC G A σ) H locs → lv_has ls 3 [] → K () = some r0 → W p l e rmX3_firstWith s m args below meth c H locs 0 0 Q (F0 m 31 ls [])) → ∀ (k : Nat)  (y2 : Int32)  (H : Heap) (locs : List Loc) (ls : Array Slot), WS G B s (wC G A σ) H locs → lv_has ls 3 [(0, .ref (A 11)), (1, .int y1), (2, .int y2)] → LX3_firstWith_2 σ y1 K k y2 = some r0 → W p l e rmX3_firstWith s m args below meth c H locs 0 0 Q (F0 m 2 ls []) := by
    intro y1 K hK k
    induction k with
    | zero => intro y2 H locs ls hW hl h; rw [LX3_firstWith_2] at h; cases h
    | succ k ih =>
      intro y2 H locs ls hW hl h
      rw [LX3_firstWith_2] at h
      refine lv_iload_n hx hb dX3_firstWith_2 rfl (lv_at hl 2 rfl) ?_
      refine lv_aload_n hx hb dX3_firstWith_3 rfl (lv_at hl 0 rfl) ?_
      refine gC_X3_last S hW lk_X3_15 dX3_firstWith_4 ?_
      refine bc_gt (tgt := 31) hx hb h dX3_firstWith_7 (by decide) (fun _ h => ?_) (fun _ h => ?_)
      · exact hK  _ _ _ hW (lv_sub hl [] rfl) h
      · refine lv_iload_n hx hb dX3_firstWith_10 rfl (lv_at hl 1 rfl) ?_
        refine lv_aload_n hx hb dX3_firstWith_11 rfl (lv_at hl 0 rfl) ?_
        refine gC_X3_sets S hW lk_X3_9 dX3_firstWith_12 ?_
        refine lv_iload_n hx hb dX3_firstWith_15 rfl (lv_at hl 2 rfl) ?_
        refine aC_12 S hW h dX3_firstWith_16 (fun v1 _ h => ?_)
        refine lv_iconst (v := (-1)) hx hb dX3_firstWith_17 (by decide) ?_
        refine lv_ixor hx hb dX3_firstWith_18 ?_
        refine lv_iand hx hb dX3_firstWith_19 ?_
        refine bz_ne (tgt := 25) hx hb h dX3_firstWith_20 (by decide) (fun _ h => ?_) (fun _ h => ?_)
        · refine lv_iload_n hx hb dX3_firstWith_23 rfl (lv_at hl 2 rfl) ?_
          exact hret H locs _ ls _ (Option.some.inj h) rfl hW dX3_firstWith_24
        · refine w_iinc (lv' := [(0, .ref (A 11)), (1, .int y1)]) hx hb dX3_firstWith_25 hl (k := 2) rfl (by decide) (by decide) rfl h (fun v2 ls hl h => ?_)
          refine lv_goto (tgt := 2) hx hb dX3_firstWith_28 (by decide) ?_
          exact ih v2 _ _ _ hW (lv_sub hl [1, 2, 0] rfl) h
  refine hL2 a1 _ (fun  H locs ls hW hl h => ?_) n 0 _ _ _ hW (lv_sub hl [1, 2, 0] rfl) h
  refine lv_iconst (v := (-1)) hx hb dX3_firstWith_31 (by decide) ?_
  exact hret H locs _ ls _ (Option.some.inj h) rfl hW dX3_firstWith_32
def rmX3_lastLevel : Room := { frames := 0, cells := 0, slots := 0, locals := 0 }
def f_X3_lastLevel (σ : SC) : Int32 := (gi σ 7)
theorem mi_X3_lastLevel : MI yX3_lastLevel cX3_lastLevel 1 (some .int) 0 := ⟨im_X3_lastLevel, se_X3_lastLevel, in_X3, co_X3_lastLevel, by decide, by decide, by decide +kernel⟩
set_option maxRecDepth 100000 in
set_option maxHeartbeats 4000000 in
theorem ct_X3_lastLevel (l : Launch) (G : EN) (A : Nat → Nat) (σ : SC) (sz : Nat) {r0 : Int32} (h : f_X3_lastLevel σ = r0) : CT l yX3_lastLevel cX3_lastLevel 1 (some .int) rmX3_lastLevel G sz [.ref (A 11)] (wC G A σ) (QI G (va_A (wC G A σ) sz) r0 (wC G A σ)) := by
  unfold f_X3_lastLevel at h
  refine CI.intro (lv := [(0, .ref (A 11))]) (by decide) (Nat.le_of_ble_eq_true rfl) rfl ?_
  intro p e s m args below meth c Q B S hret H locs ls hW hl
  have hx := S.1
  have hb := S.2.1
  refine lv_aload_n hx hb dX3_lastLevel_0 rfl (lv_at hl 0 rfl) ?_
  refine gC_X3_last S hW lk_X3_15 dX3_lastLevel_1 ?_
  exact hret H locs _ ls _ h rfl hW dX3_lastLevel_4
def rmX3_factsAt : Room := { frames := 12, cells := 0, slots := 0, locals := 400 }
def f_X3_factsAt (σ : SC) (a1 : Int32) : Option Int32 := ld (ga σ 8) 31 (if 0 < (if (gi σ 7) < a1 then (gi σ 7) else a1) then (if (gi σ 7) < a1 then (gi σ 7) else a1) else 0) (fun v1 => some v1)
theorem mi_X3_factsAt : MI yX3_factsAt cX3_factsAt 2 (some .int) 1 := ⟨im_X3_factsAt, se_X3_factsAt, in_X3, co_X3_factsAt, by decide, by decide, by decide +kernel⟩
set_option maxRecDepth 100000 in
set_option maxHeartbeats 4000000 in
theorem ct_X3_factsAt (l : Launch) (G : EN) (A : Nat → Nat) (σ : SC) (sz : Nat) (a1 : Int32) {r0 : Int32} (h : f_X3_factsAt σ a1 = some r0) : CT l yX3_factsAt cX3_factsAt 2 (some .int) rmX3_factsAt G sz [.ref (A 11), .int a1] (wC G A σ) (QI G (va_A (wC G A σ) sz) r0 (wC G A σ)) := by
  unfold f_X3_factsAt at h
  refine CI.intro (lv := [(0, .ref (A 11)), (1, .int a1)]) (by decide) (Nat.le_of_ble_eq_true rfl) rfl ?_
  intro p e s m args below meth c Q B S hret H locs ls hW hl
  have hx := S.1
  have hb := S.2.1
  refine lv_aload_n hx hb dX3_factsAt_0 rfl (lv_at hl 0 rfl) ?_
  refine gC_X3_sets S hW lk_X3_9 dX3_factsAt_1 ?_
  refine lv_iconst (v := 0) hx hb dX3_factsAt_4 (by decide) ?_
  refine lv_iload_n hx hb dX3_factsAt_5 rfl (lv_at hl 1 rfl) ?_
  refine lv_aload_n hx hb dX3_factsAt_6 rfl (lv_at hl 0 rfl) ?_
  refine gC_X3_last S hW lk_X3_15 dX3_factsAt_7 ?_
  refine va_mmin (rest := [.int 0, .ref (A 12)]) hx hb (S.2.2.1.trans hl.1.symm) S.2.2.2.1 (S.2.2.2.2 _ lk_X3_39) (S.2.2.2.2 _ sm_Mmin) (S.2.2.2.2 _ in_J9) (S.2.2.2.2 _ co_Mmin) (Nat.le_of_ble_eq_true rfl) (Nat.le_of_ble_eq_true rfl) (Nat.zero_le _) (Nat.zero_le _) dX3_factsAt_10 ?_
  refine va_mmax (rest := [.ref (A 12)]) hx hb (S.2.2.1.trans hl.1.symm) S.2.2.2.1 (S.2.2.2.2 _ lk_X3_45) (S.2.2.2.2 _ sm_Mmax) (S.2.2.2.2 _ in_J9) (S.2.2.2.2 _ co_Mmax) (Nat.le_of_ble_eq_true rfl) (Nat.le_of_ble_eq_true rfl) (Nat.zero_le _) (Nat.zero_le _) dX3_factsAt_13 ?_
  refine aC_12 S hW h dX3_factsAt_16 (fun v1 _ h => ?_)
  exact hret H locs _ ls _ (Option.some.inj h) rfl hW dX3_factsAt_17
def rmX3_newAt : Room := { frames := 13, cells := 0, slots := 0, locals := 421 }
def f_X3_newAt (σ : SC) (a1 : Int32) : Option Int32 := if a1 ≤ 0 then bd (f_X3_factsAt σ 0) (fun v2 => some v2) else bd (f_X3_factsAt σ a1) (fun v4 => bd (f_X3_factsAt σ (a1 - 1)) (fun v6 => some (v4 &&& (v6 ^^^ (-1)))))
theorem mi_X3_newAt : MI yX3_newAt cX3_newAt 2 (some .int) 1 := ⟨im_X3_newAt, se_X3_newAt, in_X3, co_X3_newAt, by decide, by decide, by decide +kernel⟩
set_option maxRecDepth 100000 in
set_option maxHeartbeats 4000000 in
theorem ct_X3_newAt (l : Launch) (G : EN) (A : Nat → Nat) (σ : SC) (sz : Nat) (a1 : Int32) {r0 : Int32} (h : f_X3_newAt σ a1 = some r0) : CT l yX3_newAt cX3_newAt 2 (some .int) rmX3_newAt G sz [.ref (A 11), .int a1] (wC G A σ) (QI G (va_A (wC G A σ) sz) r0 (wC G A σ)) := by
  unfold f_X3_newAt at h
  refine CI.intro (lv := [(0, .ref (A 11)), (1, .int a1)]) (by decide) (Nat.le_of_ble_eq_true rfl) rfl ?_
  intro p e s m args below meth c Q B S hret H locs ls hW hl
  have hx := S.1
  have hb := S.2.1
  refine lv_iload_n hx hb dX3_newAt_0 rfl (lv_at hl 1 rfl) ?_
  refine bz_le (tgt := 22) hx hb h dX3_newAt_1 (by decide) (fun _ h => ?_) (fun _ h => ?_)
  · refine lv_aload_n hx hb dX3_newAt_22 rfl (lv_at hl 0 rfl) ?_
    refine lv_iconst (v := 0) hx hb dX3_newAt_23 (by decide) ?_
    obtain ⟨v2, h1, h⟩ := bd_o h
    refine back_i (rest := []) hW (run_V S hW (ct_X3_factsAt l G A σ _ 0 h1) mi_X3_factsAt lk_X3_48 (eC_11 G A σ) rfl rfl rfl hl (Nat.le_of_ble_eq_true rfl) dX3_newAt_24 ⟨Nat.le_of_ble_eq_true rfl, Nat.le_of_ble_eq_true rfl⟩ rfl rfl) (fun H locs hW => ?_)
    exact hret H locs _ ls _ (Option.some.inj h) rfl hW dX3_newAt_27
  · refine lv_aload_n hx hb dX3_newAt_4 rfl (lv_at hl 0 rfl) ?_
    refine lv_iload_n hx hb dX3_newAt_5 rfl (lv_at hl 1 rfl) ?_
    obtain ⟨v4, h3, h⟩ := bd_o h
    refine back_i (rest := []) hW (run_V S hW (ct_X3_factsAt l G A σ _ a1 h3) mi_X3_factsAt lk_X3_48 (eC_11 G A σ) rfl rfl rfl hl (Nat.le_of_ble_eq_true rfl) dX3_newAt_6 ⟨Nat.le_of_ble_eq_true rfl, Nat.le_of_ble_eq_true rfl⟩ rfl rfl) (fun H locs hW => ?_)
    refine lv_aload_n hx hb dX3_newAt_9 rfl (lv_at hl 0 rfl) ?_
    refine lv_iload_n hx hb dX3_newAt_10 rfl (lv_at hl 1 rfl) ?_
    refine lv_iconst (v := 1) hx hb dX3_newAt_11 (by decide) ?_
    refine lv_isub hx hb dX3_newAt_12 ?_
    obtain ⟨v6, h5, h⟩ := bd_o h
    refine back_i (rest := [.int v4]) hW (run_V S hW (ct_X3_factsAt l G A σ _ (a1 - 1) h5) mi_X3_factsAt lk_X3_48 (eC_11 G A σ) rfl rfl rfl hl (Nat.le_of_ble_eq_true rfl) dX3_newAt_13 ⟨Nat.le_of_ble_eq_true rfl, Nat.le_of_ble_eq_true rfl⟩ rfl rfl) (fun H locs hW => ?_)
    refine lv_iconst (v := (-1)) hx hb dX3_newAt_16 (by decide) ?_
    refine lv_ixor hx hb dX3_newAt_17 ?_
    refine lv_iand hx hb dX3_newAt_18 ?_
    refine lv_goto (tgt := 27) hx hb dX3_newAt_19 (by decide) ?_
    exact hret H locs _ ls _ (Option.some.inj h) rfl hW dX3_newAt_27
def rmX7_makerOf : Room := { frames := 13, cells := 0, slots := 0, locals := 421 }
def LX7_makerOf_20 (n : Nat) (σ : SC) (y1 : Int32) (y3 : Int32) (K : Int32 → Option Int32) : Nat → Int32 → Int32 → Int32 → Option Int32
  | 0, _, _, _ => none
  | k + 1, y4, y5, y6 => if (gi σ 6) ≤ y6 then K y4 else ld (ga σ 1) 24 y6 (fun v3 => if (v3 &&& (1 <<< (y1 &&& 31))) = 0 then lt (y6 + 1) (fun v4 => LX7_makerOf_20 n σ y1 y3 K k y4 y5 v4) else bd (f_X0_isAllowed σ y3 y6) (fun v6 => if v6 = 0 then lt (y6 + 1) (fun v7 => LX7_makerOf_20 n σ y1 y3 K k y4 y5 v7) else bd (f_X1_costBy n σ y6) (fun v9 => if y4 = (-1) then lt (y6 + 1) (fun v10 => LX7_makerOf_20 n σ y1 y3 K k y6 v9 v10) else if y5 ≤ v9 then lt (y6 + 1) (fun v11 => LX7_makerOf_20 n σ y1 y3 K k y4 y5 v11) else lt (y6 + 1) (fun v12 => LX7_makerOf_20 n σ y1 y3 K k y6 v9 v12))))
def f_X7_makerOf (n : Nat) (σ : SC) (a1 : Int32) (a2 : Int32) : Option Int32 := bd (f_X3_factsAt σ (a2 - 1)) (fun v2 => LX7_makerOf_20 n σ a1 v2 (fun w13 => some w13) n (-1) 0 0)
theorem mi_X7_makerOf : MI yX7_makerOf cX7_makerOf 8 (some .int) 2 := ⟨im_X7_makerOf, se_X7_makerOf, in_X7, co_X7_makerOf, by decide, by decide, by decide +kernel⟩
set_option maxRecDepth 100000 in
set_option maxHeartbeats 4000000 in
theorem ct_X7_makerOf (l : Launch) (n : Nat) (G : EN) (A : Nat → Nat) (σ : SC) (sz : Nat) (a1 : Int32) (a2 : Int32) {r0 : Int32} (h : f_X7_makerOf n σ a1 a2 = some r0) : CT l yX7_makerOf cX7_makerOf 8 (some .int) rmX7_makerOf G sz [.ref (A 16), .int a1, .int a2] (wC G A σ) (QI G (va_A (wC G A σ) sz) r0 (wC G A σ)) := by
  unfold f_X7_makerOf at h
  refine CI.intro (lv := [(0, .ref (A 16)), (1, .int a1), (2, .int a2)]) (by decide) (Nat.le_of_ble_eq_true rfl) rfl ?_
  intro p e s m args below meth c Q B S hret H locs ls hW hl
  have hx := S.1
  have hb := S.2.1
  refine lv_aload_n hx hb dX7_makerOf_0 rfl (lv_at hl 0 rfl) ?_
  refine gC_X7_levels S hW lk_X7_29 dX7_makerOf_1 ?_
  refine lv_iload_n hx hb dX7_makerOf_4 rfl (lv_at hl 2 rfl) ?_
  refine lv_iconst (v := 1) hx hb dX7_makerOf_5 (by decide) ?_
  refine lv_isub hx hb dX7_makerOf_6 ?_
  obtain ⟨v2, h1, h⟩ := bd_o h
  refine back_i (rest := []) hW (run_V S hW (ct_X3_factsAt l G A σ _ (a2 - 1) h1) mi_X3_factsAt lk_X7_80 (eC_11 G A σ) rfl rfl rfl hl (Nat.le_of_ble_eq_true rfl) dX7_makerOf_7 ⟨Nat.le_of_ble_eq_true rfl, Nat.le_of_ble_eq_true rfl⟩ rfl rfl) (fun H locs hW => ?_)
  refine lv_istore_n (lv' := [(3, .int v2), (0, .ref (A 16)), (1, .int a1), (2, .int a2)]) hx hb dX7_makerOf_10 rfl hl (by decide) rfl (fun ls hl => ?_)
  refine lv_iconst (v := (-1)) hx hb dX7_makerOf_11 (by decide) ?_
  refine lv_istore (lv' := [(4, .int (-1)), (3, .int v2), (0, .ref (A 16)), (1, .int a1), (2, .int a2)]) hx hb dX7_makerOf_12 hl (by decide) rfl (fun ls hl => ?_)
  refine lv_iconst (v := 0) hx hb dX7_makerOf_14 (by decide) ?_
  refine lv_istore (lv' := [(5, .int 0), (4, .int (-1)), (3, .int v2), (0, .ref (A 16)), (1, .int a1), (2, .int a2)]) hx hb dX7_makerOf_15 hl (by decide) rfl (fun ls hl => ?_)
  refine lv_iconst (v := 0) hx hb dX7_makerOf_17 (by decide) ?_
  refine lv_istore (lv' := [(6, .int 0), (5, .int 0), (4, .int (-1)), (3, .int v2), (0, .ref (A 16)), (1, .int a1), (2, .int a2)]) hx hb dX7_makerOf_18 hl (by decide) rfl (fun ls hl => ?_)
  have hL20 : ∀ (y1 : Int32) (y3 : Int32) (K : Int32 → Option Int32), (∀ (z4 : Int32) (H : Heap) (locs : List Loc) (ls : Array Slot), WS G B s (wC G A σ) H locs → lv_has ls 8 [(4, .int z4)] → K z4 = some r0 → W p l e rmX7_makerOf s m args below meth c H locs 0 0 Q (F0 m 100 ls [])) → ∀ (k : Nat)  (y4 : Int32) (y5 : Int32) (y6 : Int32)  (H : Heap) (locs : List Loc) (ls : Array Slot), WS G B s (wC G A σ) H locs → lv_has ls 8 [(0, .ref (A 16)), (1, .int y1), (3, .int y3), (4, .int y4), (5, .int y5), (6, .int y6)] → LX7_makerOf_20 n σ y1 y3 K k y4 y5 y6 = some r0 → W p l e rmX7_makerOf s m args below meth c H locs 0 0 Q (F0 m 20 ls []) := by
    intro y1 y3 K hK k
    induction k with
    | zero => intro y4 y5 y6 H locs ls hW hl h; rw [LX7_makerOf_20] at h; cases h
    | succ k ih =>
      intro y4 y5 y6 H locs ls hW hl h
      rw [LX7_makerOf_20] at h
      refine lv_iload hx hb dX7_makerOf_20 (lv_at hl 5 rfl) ?_
      refine lv_aload_n hx hb dX7_makerOf_22 rfl (lv_at hl 0 rfl) ?_
      refine gC_X7_table S hW lk_X7_25 dX7_makerOf_23 ?_
      refine gC_X0_count S hW lk_X7_83 dX7_makerOf_26 ?_
      refine bc_ge (tgt := 100) hx hb h dX7_makerOf_29 (by decide) (fun _ h => ?_) (fun _ h => ?_)
      · exact hK y4 _ _ _ hW (lv_sub hl [3] rfl) h
      · refine lv_aload_n hx hb dX7_makerOf_32 rfl (lv_at hl 0 rfl) ?_
        refine gC_X7_table S hW lk_X7_25 dX7_makerOf_33 ?_
        refine gC_X0_makes S hW lk_X7_86 dX7_makerOf_36 ?_
        refine lv_iload hx hb dX7_makerOf_39 (lv_at hl 5 rfl) ?_
        refine aC_3 S hW h dX7_makerOf_41 (fun v3 _ h => ?_)
        refine lv_iconst (v := 1) hx hb dX7_makerOf_42 (by decide) ?_
        refine lv_iload_n hx hb dX7_makerOf_43 rfl (lv_at hl 1 rfl) ?_
        refine lv_ishl hx hb dX7_makerOf_44 ?_
        refine lv_iand hx hb dX7_makerOf_45 ?_
        refine bz_eq (tgt := 94) hx hb h dX7_makerOf_46 (by decide) (fun _ h => ?_) (fun _ h => ?_)
        · refine w_iinc (lv' := [(0, .ref (A 16)), (1, .int y1), (3, .int y3), (4, .int y4), (5, .int y5)]) hx hb dX7_makerOf_94 hl (k := 5) rfl (by decide) (by decide) rfl h (fun v4 ls hl h => ?_)
          refine lv_goto (tgt := 20) hx hb dX7_makerOf_97 (by decide) ?_
          exact ih y4 y5 v4 _ _ _ hW (lv_sub hl [1, 2, 3, 4, 5, 0] rfl) h
        · refine lv_aload_n hx hb dX7_makerOf_49 rfl (lv_at hl 0 rfl) ?_
          refine gC_X7_table S hW lk_X7_25 dX7_makerOf_50 ?_
          refine lv_iload_n hx hb dX7_makerOf_53 rfl (lv_at hl 2 rfl) ?_
          refine lv_iload hx hb dX7_makerOf_54 (lv_at hl 5 rfl) ?_
          obtain ⟨v6, h5, h⟩ := bd_o h
          refine back_i (rest := []) hW (run_V S hW (ct_X0_isAllowed l G A σ _ y3 y6 h5) mi_X0_isAllowed lk_X7_89 (eC_1 G A σ) rfl rfl rfl hl (Nat.le_of_ble_eq_true rfl) dX7_makerOf_56 ⟨Nat.le_of_ble_eq_true rfl, Nat.le_of_ble_eq_true rfl⟩ rfl rfl) (fun H locs hW => ?_)
          refine bz_eq (tgt := 94) hx hb h dX7_makerOf_59 (by decide) (fun _ h => ?_) (fun _ h => ?_)
          · refine w_iinc (lv' := [(0, .ref (A 16)), (1, .int y1), (3, .int y3), (4, .int y4), (5, .int y5)]) hx hb dX7_makerOf_94 hl (k := 5) rfl (by decide) (by decide) rfl h (fun v7 ls hl h => ?_)
            refine lv_goto (tgt := 20) hx hb dX7_makerOf_97 (by decide) ?_
            exact ih y4 y5 v7 _ _ _ hW (lv_sub hl [1, 2, 3, 4, 5, 0] rfl) h
          · refine lv_aload_n hx hb dX7_makerOf_62 rfl (lv_at hl 0 rfl) ?_
            refine gC_X7_sums S hW lk_X7_33 dX7_makerOf_63 ?_
            refine lv_iload hx hb dX7_makerOf_66 (lv_at hl 5 rfl) ?_
            obtain ⟨v9, h8, h⟩ := bd_o h
            refine back_i (rest := []) hW (run_V S hW (ct_X1_costBy l n G A σ _ y6 h8) mi_X1_costBy lk_X7_93 (eC_14 G A σ) rfl rfl rfl hl (Nat.le_of_ble_eq_true rfl) dX7_makerOf_68 ⟨Nat.le_of_ble_eq_true rfl, Nat.le_of_ble_eq_true rfl⟩ rfl rfl) (fun H locs hW => ?_)
            refine lv_istore (lv' := [(7, .int v9), (0, .ref (A 16)), (1, .int y1), (3, .int y3), (4, .int y4), (5, .int y5), (6, .int y6)]) hx hb dX7_makerOf_71 hl (by decide) rfl (fun ls hl => ?_)
            refine lv_iload hx hb dX7_makerOf_73 (lv_at hl 4 rfl) ?_
            refine lv_iconst (v := (-1)) hx hb dX7_makerOf_75 (by decide) ?_
            refine bc_eq (tgt := 86) hx hb h dX7_makerOf_76 (by decide) (fun _ h => ?_) (fun _ h => ?_)
            · refine lv_iload hx hb dX7_makerOf_86 (lv_at hl 6 rfl) ?_
              refine lv_istore (lv' := [(4, .int y6), (7, .int v9), (0, .ref (A 16)), (1, .int y1), (3, .int y3), (5, .int y5), (6, .int y6)]) hx hb dX7_makerOf_88 hl (by decide) rfl (fun ls hl => ?_)
              refine lv_iload hx hb dX7_makerOf_90 (lv_at hl 1 rfl) ?_
              refine lv_istore (lv' := [(5, .int v9), (4, .int y6), (7, .int v9), (0, .ref (A 16)), (1, .int y1), (3, .int y3), (6, .int y6)]) hx hb dX7_makerOf_92 hl (by decide) rfl (fun ls hl => ?_)
              refine w_iinc (lv' := [(5, .int v9), (4, .int y6), (7, .int v9), (0, .ref (A 16)), (1, .int y1), (3, .int y3)]) hx hb dX7_makerOf_94 hl (k := 6) rfl (by decide) (by decide) rfl h (fun v10 ls hl h => ?_)
              refine lv_goto (tgt := 20) hx hb dX7_makerOf_97 (by decide) ?_
              exact ih y6 v9 v10 _ _ _ hW (lv_sub hl [4, 5, 6, 2, 1, 0] rfl) h
            · refine lv_iload hx hb dX7_makerOf_79 (lv_at hl 0 rfl) ?_
              refine lv_iload hx hb dX7_makerOf_81 (lv_at hl 5 rfl) ?_
              refine bc_ge (tgt := 94) hx hb h dX7_makerOf_83 (by decide) (fun _ h => ?_) (fun _ h => ?_)
              · refine w_iinc (lv' := [(7, .int v9), (0, .ref (A 16)), (1, .int y1), (3, .int y3), (4, .int y4), (5, .int y5)]) hx hb dX7_makerOf_94 hl (k := 6) rfl (by decide) (by decide) rfl h (fun v11 ls hl h => ?_)
                refine lv_goto (tgt := 20) hx hb dX7_makerOf_97 (by decide) ?_
                exact ih y4 y5 v11 _ _ _ hW (lv_sub hl [2, 3, 4, 5, 6, 0] rfl) h
              · refine lv_iload hx hb dX7_makerOf_86 (lv_at hl 6 rfl) ?_
                refine lv_istore (lv' := [(4, .int y6), (7, .int v9), (0, .ref (A 16)), (1, .int y1), (3, .int y3), (5, .int y5), (6, .int y6)]) hx hb dX7_makerOf_88 hl (by decide) rfl (fun ls hl => ?_)
                refine lv_iload hx hb dX7_makerOf_90 (lv_at hl 1 rfl) ?_
                refine lv_istore (lv' := [(5, .int v9), (4, .int y6), (7, .int v9), (0, .ref (A 16)), (1, .int y1), (3, .int y3), (6, .int y6)]) hx hb dX7_makerOf_92 hl (by decide) rfl (fun ls hl => ?_)
                refine w_iinc (lv' := [(5, .int v9), (4, .int y6), (7, .int v9), (0, .ref (A 16)), (1, .int y1), (3, .int y3)]) hx hb dX7_makerOf_94 hl (k := 6) rfl (by decide) (by decide) rfl h (fun v12 ls hl h => ?_)
                refine lv_goto (tgt := 20) hx hb dX7_makerOf_97 (by decide) ?_
                exact ih y6 v9 v12 _ _ _ hW (lv_sub hl [4, 5, 6, 2, 1, 0] rfl) h
  refine hL20 a1 v2 _ (fun w13 H locs ls hW hl h => ?_) n (-1) 0 0 _ _ _ hW (lv_sub hl [4, 5, 3, 2, 1, 0] rfl) h
  refine lv_iload hx hb dX7_makerOf_100 (lv_at hl 0 rfl) ?_
  exact hret H locs _ ls _ (Option.some.inj h) rfl hW dX7_makerOf_102
def rmX7_include : Room := { frames := 1, cells := 0, slots := 0, locals := 21 }
def f_X7_include (σ : SC) (a1 : Int32) (a2 : Int32) : Option SC := if (f_X0_has σ a1) = 0 then some σ else jn (fun (σ2 : SC) => ld (ga σ2 0) 24 a1 (fun v3 => lt (si σ2 13 ((gi σ2 13) ||| (v3 &&& (a2 ^^^ (-1))))) (fun σ4 => some σ4))) (fun J1 => if ((gi σ 11) &&& (1 <<< (a1 &&& 31))) = 0 then lt (si σ 11 ((gi σ 11) ||| (1 <<< (a1 &&& 31)))) (fun σ5 => ld (ga σ5 3) 24 a1 (fun v6 => lt (si σ5 12 ((gi σ5 12) + v6)) (fun σ7 => J1 σ7))) else J1 σ)
theorem mi_X7_include : MI yX7_include cX7_include 3 none 2 := ⟨im_X7_include, se_X7_include, in_X7, co_X7_include, by decide, by decide, by decide +kernel⟩
set_option maxRecDepth 100000 in
set_option maxHeartbeats 4000000 in
theorem ct_X7_include (l : Launch) (G : EN) (A : Nat → Nat) (σ : SC) (sz : Nat) (a1 : Int32) (a2 : Int32) {σ0 : SC} (h : f_X7_include σ a1 a2 = some σ0) : CT l yX7_include cX7_include 3 none rmX7_include G sz [.ref (A 16), .int a1, .int a2] (wC G A σ) (QV G (va_A (wC G A σ) sz) (wC G A σ0)) := by
  unfold f_X7_include at h
  refine CV.intro (lv := [(0, .ref (A 16)), (1, .int a1), (2, .int a2)]) (by decide) (Nat.le_of_ble_eq_true rfl) rfl ?_
  intro p e s m args below meth c Q B S hret H locs ls hW hl
  have hx := S.1
  have hb := S.2.1
  refine lv_aload_n hx hb dX7_include_0 rfl (lv_at hl 0 rfl) ?_
  refine gC_X7_table S hW lk_X7_25 dX7_include_1 ?_
  refine lv_iload_n hx hb dX7_include_4 rfl (lv_at hl 1 rfl) ?_
  refine back_i (rest := []) hW (run_V S hW (ct_X0_has l G A σ _ a1 rfl) mi_X0_has lk_X7_67 (eC_1 G A σ) rfl rfl rfl hl (Nat.le_of_ble_eq_true rfl) dX7_include_5 ⟨Nat.le_of_ble_eq_true rfl, Nat.le_of_ble_eq_true rfl⟩ rfl rfl) (fun H locs hW => ?_)
  refine bz_ne (tgt := 12) hx hb h dX7_include_8 (by decide) (fun _ h => ?_) (fun _ h => ?_)
  · exact ret_vs (wf := wC G A) hret h hW dX7_include_11
  · refine lv_aload_n hx hb dX7_include_12 rfl (lv_at hl 0 rfl) ?_
    refine gC_X7_chosen S hW lk_X7_15 dX7_include_13 ?_
    refine lv_iconst (v := 1) hx hb dX7_include_16 (by decide) ?_
    refine lv_iload_n hx hb dX7_include_17 rfl (lv_at hl 1 rfl) ?_
    refine lv_ishl hx hb dX7_include_18 ?_
    refine lv_iand hx hb dX7_include_19 ?_
    obtain ⟨J1, eJ1, h⟩ := jn_o h
    have hJ1 : ∀ (σ2 : SC)  (H : Heap) (locs : List Loc) (ls : Array Slot), WS G B s (wC G A σ2) H locs → lv_has ls 3 [(0, .ref (A 16)), (1, .int a1), (2, .int a2)] → J1 σ2 = some σ0 → W p l e rmX7_include s m args below meth c H locs 0 0 Q (F0 m 53 ls []) := by
      subst eJ1
      intro σ2 H locs ls hW hl h
      refine lv_aload_n hx hb dX7_include_53 rfl (lv_at hl 0 rfl) ?_
      refine lv_dup hx hb dX7_include_54 rfl ?_
      refine gC_X7_wanted S hW lk_X7_22 dX7_include_55 ?_
      refine lv_aload_n hx hb dX7_include_58 rfl (lv_at hl 0 rfl) ?_
      refine gC_X7_table S hW lk_X7_25 dX7_include_59 ?_
      refine gC_X0_needs S hW lk_X7_77 dX7_include_62 ?_
      refine lv_iload_n hx hb dX7_include_65 rfl (lv_at hl 1 rfl) ?_
      refine aC_2 S hW h dX7_include_66 (fun v3 _ h => ?_)
      refine lv_iload_n hx hb dX7_include_67 rfl (lv_at hl 2 rfl) ?_
      refine lv_iconst (v := (-1)) hx hb dX7_include_68 (by decide) ?_
      refine lv_ixor hx hb dX7_include_69 ?_
      refine lv_iand hx hb dX7_include_70 ?_
      refine lv_ior hx hb dX7_include_71 ?_
      refine pC_X7_wanted S hW lk_X7_22 dX7_include_72 (fun σ4 H locs eσ4 hW => ?_)
      have h := lt_at eσ4 h
      exact ret_vs (wf := wC G A) hret h hW dX7_include_75
    clear eJ1
    refine bz_ne (tgt := 53) hx hb h dX7_include_20 (by decide) (fun _ h => ?_) (fun _ h => ?_)
    · refine lv_aload_n hx hb dX7_include_23 rfl (lv_at hl 0 rfl) ?_
      refine lv_dup hx hb dX7_include_24 rfl ?_
      refine gC_X7_chosen S hW lk_X7_15 dX7_include_25 ?_
      refine lv_iconst (v := 1) hx hb dX7_include_28 (by decide) ?_
      refine lv_iload_n hx hb dX7_include_29 rfl (lv_at hl 1 rfl) ?_
      refine lv_ishl hx hb dX7_include_30 ?_
      refine lv_ior hx hb dX7_include_31 ?_
      refine pC_X7_chosen S hW lk_X7_15 dX7_include_32 (fun σ5 H locs eσ5 hW => ?_)
      have h := lt_at eσ5 h
      refine lv_aload_n hx hb dX7_include_35 rfl (lv_at hl 0 rfl) ?_
      refine lv_dup hx hb dX7_include_36 rfl ?_
      refine gC_X7_cost S hW lk_X7_19 dX7_include_37 ?_
      refine lv_aload_n hx hb dX7_include_40 rfl (lv_at hl 0 rfl) ?_
      refine gC_X7_table S hW lk_X7_25 dX7_include_41 ?_
      refine gC_X0_costs S hW lk_X7_73 dX7_include_44 ?_
      refine lv_iload_n hx hb dX7_include_47 rfl (lv_at hl 1 rfl) ?_
      refine aC_5 S hW h dX7_include_48 (fun v6 _ h => ?_)
      refine lv_iadd hx hb dX7_include_49 ?_
      refine pC_X7_cost S hW lk_X7_19 dX7_include_50 (fun σ7 H locs eσ7 hW => ?_)
      have h := lt_at eσ7 h
      exact hJ1 σ7 _ _ _ hW (hl) h
    · exact hJ1 σ _ _ _ hW (hl) h
def rmX7_make : Room := { frames := 14, cells := 0, slots := 0, locals := 448 }
def LX7_make_101 (n : Nat) (y1 : Int32) (y3 : Int32) (y4 : Int32) (K : SC → Option SC) : Nat → SC → Int32 → Option SC
  | 0, _, _ => none
  | k + 1, σ, y5 => if 30 ≤ y5 then K σ else if ((y4.toUInt32 >>> (y5.toUInt32 &&& Int32.toUInt32 31)).toInt32) = 0 then K σ else if (y4 &&& (1 <<< (y5 &&& 31))) = 0 then lt (y5 + 1) (fun v19 => LX7_make_101 n y1 y3 y4 K k σ v19) else bd (f_X7_makerOf n σ y5 y3) (fun v21 => bd (f_X7_include σ v21 y1) (fun σ23 => lt (y5 + 1) (fun v24 => LX7_make_101 n y1 y3 y4 K k σ23 v24)))
def LX7_make_79 (n : Nat) (y1 : Int32) (K : SC → Option SC) : Nat → SC → Int32 → Option SC
  | 0, _, _ => none
  | k + 1, σ, y3 => if y3 ≤ 0 then K σ else bd (f_X3_newAt σ y3) (fun v17 => lt ((gi σ 13) &&& v17) (fun v18 => LX7_make_101 n y1 y3 v18 (fun σ25 => lt (y3 + (-1)) (fun v26 => LX7_make_79 n y1 K k σ25 v26)) n σ 0))
def f_X7_make (n : Nat) (σ : SC) (a1 : Int32) (a2 : Int32) : Option SC := lt (si σ 11 0) (fun σ1 => lt (si σ1 12 0) (fun σ2 => lt (si σ2 13 0) (fun σ3 => bd (f_X3_spread n σ3 a1 0) (fun σ5 => bd (f_X3_firstWith n σ5 a2) (fun v7 => jn (fun (u9 : Int32) => zb u9 (lt (si σ5 10 u9) (fun σ10 => if (gi σ10 10) = 0 then some σ10 else bd (f_X1_settle n σ10 a1 1) (fun σ13 => lt (si σ13 13 (a2 &&& (a1 ^^^ (-1)))) (fun σ14 => lt (f_X3_lastLevel σ14) (fun v15 => LX7_make_79 n a1 (fun σ27 => some σ27) n σ14 v15)))))) (fun J8 => if v7 = (-1) then J8 0 else J8 1))))))
theorem mi_X7_make : MI yX7_make cX7_make 6 none 2 := ⟨im_X7_make, se_X7_make, in_X7, co_X7_make, by decide, by decide, by decide +kernel⟩
set_option maxRecDepth 100000 in
set_option maxHeartbeats 4000000 in
theorem ct_X7_make (l : Launch) (n : Nat) (G : EN) (A : Nat → Nat) (σ : SC) (sz : Nat) (a1 : Int32) (a2 : Int32) {σ0 : SC} (h : f_X7_make n σ a1 a2 = some σ0) : CT l yX7_make cX7_make 6 none rmX7_make G sz [.ref (A 16), .int a1, .int a2] (wC G A σ) (QV G (va_A (wC G A σ) sz) (wC G A σ0)) := by
  unfold f_X7_make at h
  refine CV.intro (lv := [(0, .ref (A 16)), (1, .int a1), (2, .int a2)]) (by decide) (Nat.le_of_ble_eq_true rfl) rfl ?_
  intro p e s m args below meth c Q B S hret H locs ls hW hl
  have hx := S.1
  have hb := S.2.1
  refine lv_aload_n hx hb dX7_make_0 rfl (lv_at hl 0 rfl) ?_
  refine lv_iconst (v := 0) hx hb dX7_make_1 (by decide) ?_
  refine pC_X7_chosen S hW lk_X7_15 dX7_make_2 (fun σ1 H locs eσ1 hW => ?_)
  have h := lt_at eσ1 h
  refine lv_aload_n hx hb dX7_make_5 rfl (lv_at hl 0 rfl) ?_
  refine lv_iconst (v := 0) hx hb dX7_make_6 (by decide) ?_
  refine pC_X7_cost S hW lk_X7_19 dX7_make_7 (fun σ2 H locs eσ2 hW => ?_)
  have h := lt_at eσ2 h
  refine lv_aload_n hx hb dX7_make_10 rfl (lv_at hl 0 rfl) ?_
  refine lv_iconst (v := 0) hx hb dX7_make_11 (by decide) ?_
  refine pC_X7_wanted S hW lk_X7_22 dX7_make_12 (fun σ3 H locs eσ3 hW => ?_)
  have h := lt_at eσ3 h
  refine lv_aload_n hx hb dX7_make_15 rfl (lv_at hl 0 rfl) ?_
  refine gC_X7_levels S hW lk_X7_29 dX7_make_16 ?_
  refine lv_iload_n hx hb dX7_make_19 rfl (lv_at hl 1 rfl) ?_
  refine lv_iconst (v := 0) hx hb dX7_make_20 (by decide) ?_
  obtain ⟨σ5, h4, h⟩ := bd_o h
  refine back_v (rest := []) hW (run_V S hW (ct_X3_spread l n G A σ3 _ a1 0 h4) mi_X3_spread lk_X7_37 (eC_11 G A σ3) rfl rfl rfl hl (Nat.le_of_ble_eq_true rfl) dX7_make_21 ⟨Nat.le_of_ble_eq_true rfl, Nat.le_of_ble_eq_true rfl⟩ rfl rfl) (fun H locs hW => ?_)
  refine lv_aload_n hx hb dX7_make_24 rfl (lv_at hl 0 rfl) ?_
  refine lv_aload_n hx hb dX7_make_25 rfl (lv_at hl 0 rfl) ?_
  refine gC_X7_levels S hW lk_X7_29 dX7_make_26 ?_
  refine lv_iload_n hx hb dX7_make_29 rfl (lv_at hl 2 rfl) ?_
  obtain ⟨v7, h6, h⟩ := bd_o h
  refine back_i (rest := [.ref (A 16)]) hW (run_V S hW (ct_X3_firstWith l n G A σ5 _ a2 h6) mi_X3_firstWith lk_X7_43 (eC_11 G A σ5) rfl rfl rfl hl (Nat.le_of_ble_eq_true rfl) dX7_make_30 ⟨Nat.le_of_ble_eq_true rfl, Nat.le_of_ble_eq_true rfl⟩ rfl rfl) (fun H locs hW => ?_)
  refine lv_iconst (v := (-1)) hx hb dX7_make_33 (by decide) ?_
  obtain ⟨J8, eJ8, h⟩ := jn_o h
  have hJ8 : ∀ (u9 : Int32)  (H : Heap) (locs : List Loc) (ls : Array Slot), WS G B s (wC G A σ5) H locs → lv_has ls 6 [(0, .ref (A 16)), (1, .int a1), (2, .int a2)] → J8 u9 = some σ0 → W p l e rmX7_make s m args below meth c H locs 0 0 Q (F0 m 42 ls [.int u9, .ref (A 16)]) := by
    subst eJ8
    intro u9 H locs ls hW hl h
    obtain ⟨hz11, h⟩ := zb_o h
    refine pC_X7_found hz11 S hW lk_X7_9 dX7_make_42 (fun σ10 H locs eσ10 hW => ?_)
    have h := lt_at eσ10 h
    refine lv_aload_n hx hb dX7_make_45 rfl (lv_at hl 0 rfl) ?_
    refine gC_X7_found S hW lk_X7_9 dX7_make_46 ?_
    refine bz_ne (tgt := 53) hx hb h dX7_make_49 (by decide) (fun _ h => ?_) (fun _ h => ?_)
    · exact ret_vs (wf := wC G A) hret h hW dX7_make_52
    · refine lv_aload_n hx hb dX7_make_53 rfl (lv_at hl 0 rfl) ?_
      refine gC_X7_sums S hW lk_X7_33 dX7_make_54 ?_
      refine lv_iload_n hx hb dX7_make_57 rfl (lv_at hl 1 rfl) ?_
      refine lv_iconst (v := 1) hx hb dX7_make_58 (by decide) ?_
      obtain ⟨σ13, h12, h⟩ := bd_o h
      refine back_v (rest := []) hW (run_V S hW (ct_X1_settle l n G A σ10 _ a1 1 h12) mi_X1_settle lk_X7_47 (eC_14 G A σ10) rfl rfl rfl hl (Nat.le_of_ble_eq_true rfl) dX7_make_59 ⟨Nat.le_of_ble_eq_true rfl, Nat.le_of_ble_eq_true rfl⟩ rfl rfl) (fun H locs hW => ?_)
      refine lv_aload_n hx hb dX7_make_62 rfl (lv_at hl 0 rfl) ?_
      refine lv_iload_n hx hb dX7_make_63 rfl (lv_at hl 2 rfl) ?_
      refine lv_iload_n hx hb dX7_make_64 rfl (lv_at hl 1 rfl) ?_
      refine lv_iconst (v := (-1)) hx hb dX7_make_65 (by decide) ?_
      refine lv_ixor hx hb dX7_make_66 ?_
      refine lv_iand hx hb dX7_make_67 ?_
      refine pC_X7_wanted S hW lk_X7_22 dX7_make_68 (fun σ14 H locs eσ14 hW => ?_)
      have h := lt_at eσ14 h
      refine lv_aload_n hx hb dX7_make_71 rfl (lv_at hl 0 rfl) ?_
      refine gC_X7_levels S hW lk_X7_29 dX7_make_72 ?_
      refine back_i (rest := []) hW (run_V S hW (ct_X3_lastLevel l G A σ14 _ rfl) mi_X3_lastLevel lk_X7_53 (eC_11 G A σ14) rfl rfl rfl hl (Nat.le_of_ble_eq_true rfl) dX7_make_75 ⟨Nat.le_of_ble_eq_true rfl, Nat.le_of_ble_eq_true rfl⟩ rfl rfl) (fun H locs hW => ?_)
      refine nm_i h (fun v15 h => ?_)
      refine lv_istore_n (lv' := [(3, .int v15), (0, .ref (A 16)), (1, .int a1), (2, .int a2)]) hx hb dX7_make_78 rfl hl (by decide) rfl (fun ls hl => ?_)
      have hL79 : ∀ (y1 : Int32) (K : SC → Option SC), (∀ (σ : SC) (H : Heap) (locs : List Loc) (ls : Array Slot), WS G B s (wC G A σ) H locs → lv_has ls 6 [] → K σ = some σ0 → W p l e rmX7_make s m args below meth c H locs 0 0 Q (F0 m 150 ls [])) → ∀ (k : Nat) (σ : SC) (y3 : Int32)  (H : Heap) (locs : List Loc) (ls : Array Slot), WS G B s (wC G A σ) H locs → lv_has ls 6 [(0, .ref (A 16)), (1, .int y1), (3, .int y3)] → LX7_make_79 n y1 K k σ y3 = some σ0 → W p l e rmX7_make s m args below meth c H locs 0 0 Q (F0 m 79 ls []) := by
        intro y1 K hK k
        induction k with
        | zero => intro σ y3 H locs ls hW hl h; rw [LX7_make_79] at h; cases h
        | succ k ih =>
          intro σ y3 H locs ls hW hl h
          rw [LX7_make_79] at h
          refine lv_iload_n hx hb dX7_make_79 rfl (lv_at hl 2 rfl) ?_
          refine bz_le (tgt := 150) hx hb h dX7_make_80 (by decide) (fun _ h => ?_) (fun _ h => ?_)
          · exact hK σ _ _ _ hW (lv_sub hl [] rfl) h
          · refine lv_aload_n hx hb dX7_make_83 rfl (lv_at hl 0 rfl) ?_
            refine gC_X7_wanted S hW lk_X7_22 dX7_make_84 ?_
            refine lv_aload_n hx hb dX7_make_87 rfl (lv_at hl 0 rfl) ?_
            refine gC_X7_levels S hW lk_X7_29 dX7_make_88 ?_
            refine lv_iload_n hx hb dX7_make_91 rfl (lv_at hl 2 rfl) ?_
            obtain ⟨v17, h16, h⟩ := bd_o h
            refine back_i (rest := [.int (gi σ 13)]) hW (run_V S hW (ct_X3_newAt l G A σ _ y3 h16) mi_X3_newAt lk_X7_57 (eC_11 G A σ) rfl rfl rfl hl (Nat.le_of_ble_eq_true rfl) dX7_make_92 ⟨Nat.le_of_ble_eq_true rfl, Nat.le_of_ble_eq_true rfl⟩ rfl rfl) (fun H locs hW => ?_)
            refine lv_iand hx hb dX7_make_95 ?_
            refine nm_i h (fun v18 h => ?_)
            refine lv_istore (lv' := [(4, .int v18), (0, .ref (A 16)), (1, .int y1), (3, .int y3)]) hx hb dX7_make_96 hl (by decide) rfl (fun ls hl => ?_)
            refine lv_iconst (v := 0) hx hb dX7_make_98 (by decide) ?_
            refine lv_istore (lv' := [(5, .int 0), (4, .int v18), (0, .ref (A 16)), (1, .int y1), (3, .int y3)]) hx hb dX7_make_99 hl (by decide) rfl (fun ls hl => ?_)
            have hL101 : ∀ (y1 : Int32) (y3 : Int32) (y4 : Int32) (K : SC → Option SC), (∀ (σ : SC) (H : Heap) (locs : List Loc) (ls : Array Slot), WS G B s (wC G A σ) H locs → lv_has ls 6 [(0, .ref (A 16)), (1, .int y1), (3, .int y3)] → K σ = some σ0 → W p l e rmX7_make s m args below meth c H locs 0 0 Q (F0 m 144 ls [])) → ∀ (k : Nat) (σ : SC) (y5 : Int32)  (H : Heap) (locs : List Loc) (ls : Array Slot), WS G B s (wC G A σ) H locs → lv_has ls 6 [(0, .ref (A 16)), (1, .int y1), (3, .int y3), (4, .int y4), (5, .int y5)] → LX7_make_101 n y1 y3 y4 K k σ y5 = some σ0 → W p l e rmX7_make s m args below meth c H locs 0 0 Q (F0 m 101 ls []) := by
              intro y1 y3 y4 K hK k
              induction k with
              | zero => intro σ y5 H locs ls hW hl h; rw [LX7_make_101] at h; cases h
              | succ k ih =>
                intro σ y5 H locs ls hW hl h
                rw [LX7_make_101] at h
                refine lv_iload hx hb dX7_make_101 (lv_at hl 4 rfl) ?_
                refine lv_bipush (v := 30) hx hb dX7_make_103 (by decide) ?_
                refine bc_ge (tgt := 144) hx hb h dX7_make_105 (by decide) (fun _ h => ?_) (fun _ h => ?_)
                · exact hK σ _ _ _ hW (lv_sub hl [0, 1, 2] rfl) h
                · refine lv_iload hx hb dX7_make_108 (lv_at hl 3 rfl) ?_
                  refine lv_iload hx hb dX7_make_110 (lv_at hl 4 rfl) ?_
                  refine lv_iushr hx hb dX7_make_112 rfl ?_
                  refine bz_eq (tgt := 144) hx hb h dX7_make_113 (by decide) (fun _ h => ?_) (fun _ h => ?_)
                  · exact hK σ _ _ _ hW (lv_sub hl [0, 1, 2] rfl) h
                  · refine lv_iload hx hb dX7_make_116 (lv_at hl 3 rfl) ?_
                    refine lv_iconst (v := 1) hx hb dX7_make_118 (by decide) ?_
                    refine lv_iload hx hb dX7_make_119 (lv_at hl 4 rfl) ?_
                    refine lv_ishl hx hb dX7_make_121 ?_
                    refine lv_iand hx hb dX7_make_122 ?_
                    refine bz_eq (tgt := 138) hx hb h dX7_make_123 (by decide) (fun _ h => ?_) (fun _ h => ?_)
                    · refine w_iinc (lv' := [(0, .ref (A 16)), (1, .int y1), (3, .int y3), (4, .int y4)]) hx hb dX7_make_138 hl (k := 4) rfl (by decide) (by decide) rfl h (fun v19 ls hl h => ?_)
                      refine lv_goto (tgt := 101) hx hb dX7_make_141 (by decide) ?_
                      exact ih σ v19 _ _ _ hW (lv_sub hl [1, 2, 3, 4, 0] rfl) h
                    · refine lv_aload_n hx hb dX7_make_126 rfl (lv_at hl 0 rfl) ?_
                      refine lv_aload_n hx hb dX7_make_127 rfl (lv_at hl 0 rfl) ?_
                      refine lv_iload hx hb dX7_make_128 (lv_at hl 4 rfl) ?_
                      refine lv_iload_n hx hb dX7_make_130 rfl (lv_at hl 2 rfl) ?_
                      obtain ⟨v21, h20, h⟩ := bd_o h
                      refine back_i (rest := [.ref (A 16)]) hW (run_V S hW (ct_X7_makerOf l n G A σ _ y5 y3 h20) mi_X7_makerOf lk_X7_60 (eC_16 G A σ) rfl rfl rfl hl (Nat.le_of_ble_eq_true rfl) dX7_make_131 ⟨Nat.le_of_ble_eq_true rfl, Nat.le_of_ble_eq_true rfl⟩ rfl rfl) (fun H locs hW => ?_)
                      refine lv_iload_n hx hb dX7_make_134 rfl (lv_at hl 1 rfl) ?_
                      obtain ⟨σ23, h22, h⟩ := bd_o h
                      refine back_v (rest := []) hW (run_V S hW (ct_X7_include l G A σ _ v21 y1 h22) mi_X7_include lk_X7_64 (eC_16 G A σ) rfl rfl rfl hl (Nat.le_of_ble_eq_true rfl) dX7_make_135 ⟨Nat.le_of_ble_eq_true rfl, Nat.le_of_ble_eq_true rfl⟩ rfl rfl) (fun H locs hW => ?_)
                      refine w_iinc (lv' := [(0, .ref (A 16)), (1, .int y1), (3, .int y3), (4, .int y4)]) hx hb dX7_make_138 hl (k := 4) rfl (by decide) (by decide) rfl h (fun v24 ls hl h => ?_)
                      refine lv_goto (tgt := 101) hx hb dX7_make_141 (by decide) ?_
                      exact ih σ23 v24 _ _ _ hW (lv_sub hl [1, 2, 3, 4, 0] rfl) h
            refine hL101 y1 y3 v18 _ (fun σ25 H locs ls hW hl h => ?_) n σ 0 _ _ _ hW (lv_sub hl [2, 3, 4, 1, 0] rfl) h
            refine w_iinc (lv' := [(0, .ref (A 16)), (1, .int y1)]) hx hb dX7_make_144 hl (k := 2) rfl (by decide) (by decide) rfl h (fun v26 ls hl h => ?_)
            refine lv_goto (tgt := 79) hx hb dX7_make_147 (by decide) ?_
            exact ih σ25 v26 _ _ _ hW (lv_sub hl [1, 2, 0] rfl) h
      refine hL79 a1 _ (fun σ27 H locs ls hW hl h => ?_) n σ14 v15 _ _ _ hW (lv_sub hl [1, 2, 0] rfl) h
      exact ret_vs (wf := wC G A) hret h hW dX7_make_150
  clear eJ8
  refine bc_eq (tgt := 41) hx hb h dX7_make_34 (by decide) (fun _ h => ?_) (fun _ h => ?_)
  · refine lv_iconst (v := 0) hx hb dX7_make_41 (by decide) ?_
    exact hJ8 0 _ _ _ hW (hl) h
  · refine lv_iconst (v := 1) hx hb dX7_make_37 (by decide) ?_
    refine lv_goto (tgt := 42) hx hb dX7_make_38 (by decide) ?_
    exact hJ8 1 _ _ _ hW (hl) h
def rmX2_guessOf : Room := { frames := 15, cells := 0, slots := 0, locals := 473 }
def f_X2_guessOf (n : Nat) (σ : SC) (a1 : Int32) (a2 : Int32) (a3 : Int32) : Option (Int32 × SC) := if a3 = 0 then some ((f_J6_bitCount_0f7a4 (a2 &&& (a1 ^^^ (-1)))), σ) else if a3 = 3 then bd (f_X7_make n σ a1 a2) (fun σ8 => if (gi σ8 10) = 0 then some ((-1), σ8) else some ((gi σ8 12), σ8)) else jn (fun (u2 : Int32) => bd (f_X1_settle n σ a1 u2) (fun σ4 => if (a2 &&& ((gi σ4 8) ^^^ (-1))) = 0 then bd (f_X1_ofAll n σ4 a2) (fun v6 => some (v6, σ4)) else some ((-1), σ4))) (fun J1 => if a3 = 2 then J1 1 else J1 0)
theorem mi_X2_guessOf : MI yX2_guessOf cX2_guessOf 4 (some .int) 3 := ⟨im_X2_guessOf, se_X2_guessOf, in_X2, co_X2_guessOf, by decide, by decide, by decide +kernel⟩
set_option maxRecDepth 100000 in
set_option maxHeartbeats 4000000 in
theorem ct_X2_guessOf (l : Launch) (n : Nat) (G : EN) (A : Nat → Nat) (σ : SC) (sz : Nat) (a1 : Int32) (a2 : Int32) (a3 : Int32) {r0 : Int32} {σ0 : SC} (h : f_X2_guessOf n σ a1 a2 a3 = some (r0, σ0)) : CT l yX2_guessOf cX2_guessOf 4 (some .int) rmX2_guessOf G sz [.ref (A 13), .int a1, .int a2, .int a3] (wC G A σ) (QI G (va_A (wC G A σ) sz) r0 (wC G A σ0)) := by
  unfold f_X2_guessOf at h
  refine CI.intro (lv := [(0, .ref (A 13)), (1, .int a1), (2, .int a2), (3, .int a3)]) (by decide) (Nat.le_of_ble_eq_true rfl) rfl ?_
  intro p e s m args below meth c Q B S hret H locs ls hW hl
  have hx := S.1
  have hb := S.2.1
  refine lv_iload_n hx hb dX2_guessOf_0 rfl (lv_at hl 3 rfl) ?_
  refine bz_ne (tgt := 13) hx hb h dX2_guessOf_1 (by decide) (fun _ h => ?_) (fun _ h => ?_)
  · refine lv_iload_n hx hb dX2_guessOf_4 rfl (lv_at hl 2 rfl) ?_
    refine lv_iload_n hx hb dX2_guessOf_5 rfl (lv_at hl 1 rfl) ?_
    refine lv_iconst (v := (-1)) hx hb dX2_guessOf_6 (by decide) ?_
    refine lv_ixor hx hb dX2_guessOf_7 ?_
    refine lv_iand hx hb dX2_guessOf_8 ?_
    refine back_i (rest := []) hW (run_S S hW (ct_J6_bitCount_0f7a4 l G _ _ (a2 &&& (a1 ^^^ (-1))) rfl) ms_J6_bitCount_0f7a4 lk_X2_33 rfl rfl hl (Nat.le_of_ble_eq_true rfl) dX2_guessOf_9 ⟨Nat.le_of_ble_eq_true rfl, Nat.le_of_ble_eq_true rfl⟩ rfl rfl) (fun H locs hW => ?_)
    exact ret_is (wf := wC G A) hret h rfl hW dX2_guessOf_12
  · refine lv_iload_n hx hb dX2_guessOf_13 rfl (lv_at hl 3 rfl) ?_
    refine lv_iconst (v := 3) hx hb dX2_guessOf_14 (by decide) ?_
    refine bc_ne (tgt := 49) hx hb h dX2_guessOf_15 (by decide) (fun _ h => ?_) (fun _ h => ?_)
    · refine lv_aload_n hx hb dX2_guessOf_18 rfl (lv_at hl 0 rfl) ?_
      refine gC_X2_plan S hW lk_X2_29 dX2_guessOf_19 ?_
      refine lv_iload_n hx hb dX2_guessOf_22 rfl (lv_at hl 1 rfl) ?_
      refine lv_iload_n hx hb dX2_guessOf_23 rfl (lv_at hl 2 rfl) ?_
      obtain ⟨σ8, h7, h⟩ := bd_o h
      refine back_v (rest := []) hW (run_V S hW (ct_X7_make l n G A σ _ a1 a2 h7) mi_X7_make lk_X2_39 (eC_16 G A σ) rfl rfl rfl hl (Nat.le_of_ble_eq_true rfl) dX2_guessOf_24 ⟨Nat.le_of_ble_eq_true rfl, Nat.le_of_ble_eq_true rfl⟩ rfl rfl) (fun H locs hW => ?_)
      refine lv_aload_n hx hb dX2_guessOf_27 rfl (lv_at hl 0 rfl) ?_
      refine gC_X2_plan S hW lk_X2_29 dX2_guessOf_28 ?_
      refine gC_X7_found S hW lk_X2_43 dX2_guessOf_31 ?_
      refine bz_eq (tgt := 47) hx hb h dX2_guessOf_34 (by decide) (fun _ h => ?_) (fun _ h => ?_)
      · refine lv_iconst (v := (-1)) hx hb dX2_guessOf_47 (by decide) ?_
        exact ret_is (wf := wC G A) hret h rfl hW dX2_guessOf_48
      · refine lv_aload_n hx hb dX2_guessOf_37 rfl (lv_at hl 0 rfl) ?_
        refine gC_X2_plan S hW lk_X2_29 dX2_guessOf_38 ?_
        refine gC_X7_cost S hW lk_X2_47 dX2_guessOf_41 ?_
        refine lv_goto (tgt := 48) hx hb dX2_guessOf_44 (by decide) ?_
        exact ret_is (wf := wC G A) hret h rfl hW dX2_guessOf_48
    · refine lv_aload_n hx hb dX2_guessOf_49 rfl (lv_at hl 0 rfl) ?_
      refine gC_X2_costs S hW lk_X2_20 dX2_guessOf_50 ?_
      refine lv_iload_n hx hb dX2_guessOf_53 rfl (lv_at hl 1 rfl) ?_
      refine lv_iload_n hx hb dX2_guessOf_54 rfl (lv_at hl 3 rfl) ?_
      refine lv_iconst (v := 2) hx hb dX2_guessOf_55 (by decide) ?_
      obtain ⟨J1, eJ1, h⟩ := jn_o h
      have hJ1 : ∀ (u2 : Int32)  (H : Heap) (locs : List Loc) (ls : Array Slot), WS G B s (wC G A σ) H locs → lv_has ls 4 [(0, .ref (A 13)), (2, .int a2)] → J1 u2 = some (r0, σ0) → W p l e rmX2_guessOf s m args below meth c H locs 0 0 Q (F0 m 64 ls [.int u2, .int a1, .ref (A 14)]) := by
        subst eJ1
        intro u2 H locs ls hW hl h
        obtain ⟨σ4, h3, h⟩ := bd_o h
        refine back_v (rest := []) hW (run_V S hW (ct_X1_settle l n G A σ _ a1 u2 h3) mi_X1_settle lk_X2_51 (eC_14 G A σ) rfl rfl rfl hl (Nat.le_of_ble_eq_true rfl) dX2_guessOf_64 ⟨Nat.le_of_ble_eq_true rfl, Nat.le_of_ble_eq_true rfl⟩ rfl rfl) (fun H locs hW => ?_)
        refine lv_iload_n hx hb dX2_guessOf_67 rfl (lv_at hl 1 rfl) ?_
        refine lv_aload_n hx hb dX2_guessOf_68 rfl (lv_at hl 0 rfl) ?_
        refine gC_X2_costs S hW lk_X2_20 dX2_guessOf_69 ?_
        refine gC_X1_known S hW lk_X2_55 dX2_guessOf_72 ?_
        refine lv_iconst (v := (-1)) hx hb dX2_guessOf_75 (by decide) ?_
        refine lv_ixor hx hb dX2_guessOf_76 ?_
        refine lv_iand hx hb dX2_guessOf_77 ?_
        refine bz_ne (tgt := 92) hx hb h dX2_guessOf_78 (by decide) (fun _ h => ?_) (fun _ h => ?_)
        · refine lv_aload_n hx hb dX2_guessOf_81 rfl (lv_at hl 0 rfl) ?_
          refine gC_X2_costs S hW lk_X2_20 dX2_guessOf_82 ?_
          refine lv_iload_n hx hb dX2_guessOf_85 rfl (lv_at hl 1 rfl) ?_
          obtain ⟨v6, h5, h⟩ := bd_o h
          refine back_i (rest := []) hW (run_V S hW (ct_X1_ofAll l n G A σ4 _ a2 h5) mi_X1_ofAll lk_X2_58 (eC_14 G A σ4) rfl rfl rfl hl (Nat.le_of_ble_eq_true rfl) dX2_guessOf_86 ⟨Nat.le_of_ble_eq_true rfl, Nat.le_of_ble_eq_true rfl⟩ rfl rfl) (fun H locs hW => ?_)
          refine lv_goto (tgt := 93) hx hb dX2_guessOf_89 (by decide) ?_
          exact ret_is (wf := wC G A) hret h rfl hW dX2_guessOf_93
        · refine lv_iconst (v := (-1)) hx hb dX2_guessOf_92 (by decide) ?_
          exact ret_is (wf := wC G A) hret h rfl hW dX2_guessOf_93
      clear eJ1
      refine bc_ne (tgt := 63) hx hb h dX2_guessOf_56 (by decide) (fun _ h => ?_) (fun _ h => ?_)
      · refine lv_iconst (v := 1) hx hb dX2_guessOf_59 (by decide) ?_
        refine lv_goto (tgt := 64) hx hb dX2_guessOf_60 (by decide) ?_
        exact hJ1 1 _ _ _ hW (lv_sub hl [0, 2] rfl) h
      · refine lv_iconst (v := 0) hx hb dX2_guessOf_63 (by decide) ?_
        exact hJ1 0 _ _ _ hW (lv_sub hl [0, 2] rfl) h
def rmX2_greediest : Room := { frames := 16, cells := 0, slots := 0, locals := 496 }
def LX2_greediest_9 (n : Nat) (y1 : Int32) (y2 : Int32) (y3 : Int32) (K : SC → Int32 → Option (Int32 × SC)) : Nat → SC → Int32 → Int32 → Int32 → Option (Int32 × SC)
  | 0, _, _, _, _ => none
  | k + 1, σ, y4, y5, y6 => if (gi σ 6) ≤ y6 then K σ y4 else bd (f_X0_isAllowed σ y1 y6) (fun v2 => if v2 = 0 then lt (y6 + 1) (fun v3 => LX2_greediest_9 n y1 y2 y3 K k σ y4 y5 v3) else bd (f_X0_after σ y1 y6) (fun v5 => bd2 (f_X2_guessOf n σ v5 y2 y3) (fun v8 σ7 => if v8 = (-1) then lt (y6 + 1) (fun v9 => LX2_greediest_9 n y1 y2 y3 K k σ7 y4 y5 v9) else if y4 = (-1) then lt (y6 + 1) (fun v10 => LX2_greediest_9 n y1 y2 y3 K k σ7 y6 v8 v10) else if y5 ≤ v8 then lt (y6 + 1) (fun v11 => LX2_greediest_9 n y1 y2 y3 K k σ7 y4 y5 v11) else lt (y6 + 1) (fun v12 => LX2_greediest_9 n y1 y2 y3 K k σ7 y6 v8 v12))))
def f_X2_greediest (n : Nat) (σ : SC) (a1 : Int32) (a2 : Int32) (a3 : Int32) : Option (Int32 × SC) := LX2_greediest_9 n a1 a2 a3 (fun σ13 w14 => some (w14, σ13)) n σ (-1) 0 0
theorem mi_X2_greediest : MI yX2_greediest cX2_greediest 8 (some .int) 3 := ⟨im_X2_greediest, se_X2_greediest, in_X2, co_X2_greediest, by decide, by decide, by decide +kernel⟩
set_option maxRecDepth 100000 in
set_option maxHeartbeats 4000000 in
theorem ct_X2_greediest (l : Launch) (n : Nat) (G : EN) (A : Nat → Nat) (σ : SC) (sz : Nat) (a1 : Int32) (a2 : Int32) (a3 : Int32) {r0 : Int32} {σ0 : SC} (h : f_X2_greediest n σ a1 a2 a3 = some (r0, σ0)) : CT l yX2_greediest cX2_greediest 8 (some .int) rmX2_greediest G sz [.ref (A 13), .int a1, .int a2, .int a3] (wC G A σ) (QI G (va_A (wC G A σ) sz) r0 (wC G A σ0)) := by
  unfold f_X2_greediest at h
  refine CI.intro (lv := [(0, .ref (A 13)), (1, .int a1), (2, .int a2), (3, .int a3)]) (by decide) (Nat.le_of_ble_eq_true rfl) rfl ?_
  intro p e s m args below meth c Q B S hret H locs ls hW hl
  have hx := S.1
  have hb := S.2.1
  refine lv_iconst (v := (-1)) hx hb dX2_greediest_0 (by decide) ?_
  refine lv_istore (lv' := [(4, .int (-1)), (0, .ref (A 13)), (1, .int a1), (2, .int a2), (3, .int a3)]) hx hb dX2_greediest_1 hl (by decide) rfl (fun ls hl => ?_)
  refine lv_iconst (v := 0) hx hb dX2_greediest_3 (by decide) ?_
  refine lv_istore (lv' := [(5, .int 0), (4, .int (-1)), (0, .ref (A 13)), (1, .int a1), (2, .int a2), (3, .int a3)]) hx hb dX2_greediest_4 hl (by decide) rfl (fun ls hl => ?_)
  refine lv_iconst (v := 0) hx hb dX2_greediest_6 (by decide) ?_
  refine lv_istore (lv' := [(6, .int 0), (5, .int 0), (4, .int (-1)), (0, .ref (A 13)), (1, .int a1), (2, .int a2), (3, .int a3)]) hx hb dX2_greediest_7 hl (by decide) rfl (fun ls hl => ?_)
  have hL9 : ∀ (y1 : Int32) (y2 : Int32) (y3 : Int32) (K : SC → Int32 → Option (Int32 × SC)), (∀ (σ : SC) (z4 : Int32) (H : Heap) (locs : List Loc) (ls : Array Slot), WS G B s (wC G A σ) H locs → lv_has ls 8 [(4, .int z4)] → K σ z4 = some (r0, σ0) → W p l e rmX2_greediest s m args below meth c H locs 0 0 Q (F0 m 85 ls [])) → ∀ (k : Nat) (σ : SC) (y4 : Int32) (y5 : Int32) (y6 : Int32)  (H : Heap) (locs : List Loc) (ls : Array Slot), WS G B s (wC G A σ) H locs → lv_has ls 8 [(0, .ref (A 13)), (1, .int y1), (2, .int y2), (3, .int y3), (4, .int y4), (5, .int y5), (6, .int y6)] → LX2_greediest_9 n y1 y2 y3 K k σ y4 y5 y6 = some (r0, σ0) → W p l e rmX2_greediest s m args below meth c H locs 0 0 Q (F0 m 9 ls []) := by
    intro y1 y2 y3 K hK k
    induction k with
    | zero => intro σ y4 y5 y6 H locs ls hW hl h; rw [LX2_greediest_9] at h; cases h
    | succ k ih =>
      intro σ y4 y5 y6 H locs ls hW hl h
      rw [LX2_greediest_9] at h
      refine lv_iload hx hb dX2_greediest_9 (lv_at hl 6 rfl) ?_
      refine lv_aload_n hx hb dX2_greediest_11 rfl (lv_at hl 0 rfl) ?_
      refine gC_X2_table S hW lk_X2_9 dX2_greediest_12 ?_
      refine gC_X0_count S hW lk_X2_61 dX2_greediest_15 ?_
      refine bc_ge (tgt := 85) hx hb h dX2_greediest_18 (by decide) (fun _ h => ?_) (fun _ h => ?_)
      · exact hK σ y4 _ _ _ hW (lv_sub hl [4] rfl) h
      · refine lv_aload_n hx hb dX2_greediest_21 rfl (lv_at hl 0 rfl) ?_
        refine gC_X2_table S hW lk_X2_9 dX2_greediest_22 ?_
        refine lv_iload_n hx hb dX2_greediest_25 rfl (lv_at hl 1 rfl) ?_
        refine lv_iload hx hb dX2_greediest_26 (lv_at hl 6 rfl) ?_
        obtain ⟨v2, h1, h⟩ := bd_o h
        refine back_i (rest := []) hW (run_V S hW (ct_X0_isAllowed l G A σ _ y1 y6 h1) mi_X0_isAllowed lk_X2_66 (eC_1 G A σ) rfl rfl rfl hl (Nat.le_of_ble_eq_true rfl) dX2_greediest_28 ⟨Nat.le_of_ble_eq_true rfl, Nat.le_of_ble_eq_true rfl⟩ rfl rfl) (fun H locs hW => ?_)
        refine bz_eq (tgt := 79) hx hb h dX2_greediest_31 (by decide) (fun _ h => ?_) (fun _ h => ?_)
        · refine w_iinc (lv' := [(0, .ref (A 13)), (1, .int y1), (2, .int y2), (3, .int y3), (4, .int y4), (5, .int y5)]) hx hb dX2_greediest_79 hl (k := 6) rfl (by decide) (by decide) rfl h (fun v3 ls hl h => ?_)
          refine lv_goto (tgt := 9) hx hb dX2_greediest_82 (by decide) ?_
          exact ih σ y4 y5 v3 _ _ _ hW (lv_sub hl [1, 2, 3, 4, 5, 6, 0] rfl) h
        · refine lv_aload_n hx hb dX2_greediest_34 rfl (lv_at hl 0 rfl) ?_
          refine lv_aload_n hx hb dX2_greediest_35 rfl (lv_at hl 0 rfl) ?_
          refine gC_X2_table S hW lk_X2_9 dX2_greediest_36 ?_
          refine lv_iload_n hx hb dX2_greediest_39 rfl (lv_at hl 1 rfl) ?_
          refine lv_iload hx hb dX2_greediest_40 (lv_at hl 6 rfl) ?_
          obtain ⟨v5, h4, h⟩ := bd_o h
          refine back_i (rest := [.ref (A 13)]) hW (run_V S hW (ct_X0_after l G A σ _ y1 y6 h4) mi_X0_after lk_X2_70 (eC_1 G A σ) rfl rfl rfl hl (Nat.le_of_ble_eq_true rfl) dX2_greediest_42 ⟨Nat.le_of_ble_eq_true rfl, Nat.le_of_ble_eq_true rfl⟩ rfl rfl) (fun H locs hW => ?_)
          refine lv_iload_n hx hb dX2_greediest_45 rfl (lv_at hl 2 rfl) ?_
          refine lv_iload_n hx hb dX2_greediest_46 rfl (lv_at hl 3 rfl) ?_
          obtain ⟨v8, σ7, h6, h⟩ := bd2_o h
          refine back_i (rest := []) hW (run_V S hW (ct_X2_guessOf l n G A σ _ v5 y2 y3 h6) mi_X2_guessOf lk_X2_74 (eC_13 G A σ) rfl rfl rfl hl (Nat.le_of_ble_eq_true rfl) dX2_greediest_47 ⟨Nat.le_of_ble_eq_true rfl, Nat.le_of_ble_eq_true rfl⟩ rfl rfl) (fun H locs hW => ?_)
          refine lv_istore (lv' := [(7, .int v8), (0, .ref (A 13)), (1, .int y1), (2, .int y2), (3, .int y3), (4, .int y4), (5, .int y5), (6, .int y6)]) hx hb dX2_greediest_50 hl (by decide) rfl (fun ls hl => ?_)
          refine lv_iload hx hb dX2_greediest_52 (lv_at hl 0 rfl) ?_
          refine lv_iconst (v := (-1)) hx hb dX2_greediest_54 (by decide) ?_
          refine bc_eq (tgt := 79) hx hb h dX2_greediest_55 (by decide) (fun _ h => ?_) (fun _ h => ?_)
          · refine w_iinc (lv' := [(7, .int v8), (0, .ref (A 13)), (1, .int y1), (2, .int y2), (3, .int y3), (4, .int y4), (5, .int y5)]) hx hb dX2_greediest_79 hl (k := 7) rfl (by decide) (by decide) rfl h (fun v9 ls hl h => ?_)
            refine lv_goto (tgt := 9) hx hb dX2_greediest_82 (by decide) ?_
            exact ih σ7 y4 y5 v9 _ _ _ hW (lv_sub hl [2, 3, 4, 5, 6, 7, 0] rfl) h
          · refine lv_iload hx hb dX2_greediest_58 (lv_at hl 5 rfl) ?_
            refine lv_iconst (v := (-1)) hx hb dX2_greediest_60 (by decide) ?_
            refine bc_eq (tgt := 71) hx hb h dX2_greediest_61 (by decide) (fun _ h => ?_) (fun _ h => ?_)
            · refine lv_iload hx hb dX2_greediest_71 (lv_at hl 7 rfl) ?_
              refine lv_istore (lv' := [(4, .int y6), (7, .int v8), (0, .ref (A 13)), (1, .int y1), (2, .int y2), (3, .int y3), (5, .int y5), (6, .int y6)]) hx hb dX2_greediest_73 hl (by decide) rfl (fun ls hl => ?_)
              refine lv_iload hx hb dX2_greediest_75 (lv_at hl 1 rfl) ?_
              refine lv_istore (lv' := [(5, .int v8), (4, .int y6), (7, .int v8), (0, .ref (A 13)), (1, .int y1), (2, .int y2), (3, .int y3), (6, .int y6)]) hx hb dX2_greediest_77 hl (by decide) rfl (fun ls hl => ?_)
              refine w_iinc (lv' := [(5, .int v8), (4, .int y6), (7, .int v8), (0, .ref (A 13)), (1, .int y1), (2, .int y2), (3, .int y3)]) hx hb dX2_greediest_79 hl (k := 7) rfl (by decide) (by decide) rfl h (fun v10 ls hl h => ?_)
              refine lv_goto (tgt := 9) hx hb dX2_greediest_82 (by decide) ?_
              exact ih σ7 y6 v8 v10 _ _ _ hW (lv_sub hl [4, 5, 6, 7, 2, 1, 0] rfl) h
            · refine lv_iload hx hb dX2_greediest_64 (lv_at hl 0 rfl) ?_
              refine lv_iload hx hb dX2_greediest_66 (lv_at hl 6 rfl) ?_
              refine bc_ge (tgt := 79) hx hb h dX2_greediest_68 (by decide) (fun _ h => ?_) (fun _ h => ?_)
              · refine w_iinc (lv' := [(7, .int v8), (0, .ref (A 13)), (1, .int y1), (2, .int y2), (3, .int y3), (4, .int y4), (5, .int y5)]) hx hb dX2_greediest_79 hl (k := 7) rfl (by decide) (by decide) rfl h (fun v11 ls hl h => ?_)
                refine lv_goto (tgt := 9) hx hb dX2_greediest_82 (by decide) ?_
                exact ih σ7 y4 y5 v11 _ _ _ hW (lv_sub hl [2, 3, 4, 5, 6, 7, 0] rfl) h
              · refine lv_iload hx hb dX2_greediest_71 (lv_at hl 7 rfl) ?_
                refine lv_istore (lv' := [(4, .int y6), (7, .int v8), (0, .ref (A 13)), (1, .int y1), (2, .int y2), (3, .int y3), (5, .int y5), (6, .int y6)]) hx hb dX2_greediest_73 hl (by decide) rfl (fun ls hl => ?_)
                refine lv_iload hx hb dX2_greediest_75 (lv_at hl 1 rfl) ?_
                refine lv_istore (lv' := [(5, .int v8), (4, .int y6), (7, .int v8), (0, .ref (A 13)), (1, .int y1), (2, .int y2), (3, .int y3), (6, .int y6)]) hx hb dX2_greediest_77 hl (by decide) rfl (fun ls hl => ?_)
                refine w_iinc (lv' := [(5, .int v8), (4, .int y6), (7, .int v8), (0, .ref (A 13)), (1, .int y1), (2, .int y2), (3, .int y3)]) hx hb dX2_greediest_79 hl (k := 7) rfl (by decide) (by decide) rfl h (fun v12 ls hl h => ?_)
                refine lv_goto (tgt := 9) hx hb dX2_greediest_82 (by decide) ?_
                exact ih σ7 y6 v8 v12 _ _ _ hW (lv_sub hl [4, 5, 6, 7, 2, 1, 0] rfl) h
  refine hL9 a1 a2 a3 _ (fun σ13 w14 H locs ls hW hl h => ?_) n σ (-1) 0 0 _ _ _ hW (lv_sub hl [3, 4, 5, 6, 2, 1, 0] rfl) h
  refine lv_iload hx hb dX2_greediest_85 (lv_at hl 0 rfl) ?_
  exact ret_is (wf := wC G A) hret h rfl hW dX2_greediest_87
def rmX6_hasNumber : Room := { frames := 0, cells := 0, slots := 0, locals := 0 }
def f_X6_hasNumber (σ : SC) (a1 : Int32) : Int32 := if a1 < 0 then 0 else if (gi σ 14) ≤ a1 then 0 else 1
theorem z_X6_hasNumber (σ : SC) (a1 : Int32) : f_X6_hasNumber σ a1 = 0 ∨ f_X6_hasNumber σ a1 = 1 := by
  unfold f_X6_hasNumber
  repeat' (first | split | exact Or.inl rfl | exact Or.inr rfl)
theorem mi_X6_hasNumber : MI yX6_hasNumber cX6_hasNumber 2 (some .boolean) 1 := ⟨im_X6_hasNumber, se_X6_hasNumber, in_X6, co_X6_hasNumber, by decide, by decide, by decide +kernel⟩
set_option maxRecDepth 100000 in
set_option maxHeartbeats 4000000 in
theorem ct_X6_hasNumber (l : Launch) (G : EN) (A : Nat → Nat) (σ : SC) (sz : Nat) (a1 : Int32) {r0 : Int32} (h : f_X6_hasNumber σ a1 = r0) : CT l yX6_hasNumber cX6_hasNumber 2 (some .boolean) rmX6_hasNumber G sz [.ref (A 17), .int a1] (wC G A σ) (QI G (va_A (wC G A σ) sz) r0 (wC G A σ)) := by
  unfold f_X6_hasNumber at h
  refine CI.intro (lv := [(0, .ref (A 17)), (1, .int a1)]) (by decide) (Nat.le_of_ble_eq_true rfl) rfl ?_
  intro p e s m args below meth c Q B S hret H locs ls hW hl
  have hx := S.1
  have hb := S.2.1
  refine lv_iload_n hx hb dX6_hasNumber_0 rfl (lv_at hl 1 rfl) ?_
  refine bz_lt (tgt := 16) hx hb h dX6_hasNumber_1 (by decide) (fun _ h => ?_) (fun _ h => ?_)
  · refine lv_iconst (v := 0) hx hb dX6_hasNumber_16 (by decide) ?_
    exact hret H locs _ ls _ h (nar_z (Or.inl rfl)) hW dX6_hasNumber_17
  · refine lv_iload_n hx hb dX6_hasNumber_4 rfl (lv_at hl 1 rfl) ?_
    refine lv_aload_n hx hb dX6_hasNumber_5 rfl (lv_at hl 0 rfl) ?_
    refine gC_X6_count S hW lk_X6_18 dX6_hasNumber_6 ?_
    refine bc_ge (tgt := 16) hx hb h dX6_hasNumber_9 (by decide) (fun _ h => ?_) (fun _ h => ?_)
    · refine lv_iconst (v := 0) hx hb dX6_hasNumber_16 (by decide) ?_
      exact hret H locs _ ls _ h (nar_z (Or.inl rfl)) hW dX6_hasNumber_17
    · refine lv_iconst (v := 1) hx hb dX6_hasNumber_12 (by decide) ?_
      refine lv_goto (tgt := 17) hx hb dX6_hasNumber_13 (by decide) ?_
      exact hret H locs _ ls _ h (nar_z (Or.inr rfl)) hW dX6_hasNumber_17
def rmX6_slotOf : Room := { frames := 0, cells := 0, slots := 0, locals := 0 }
def LX6_slotOf_10 (σ : SC) (y1 : Int32) (K : Int32 → Option Int32) : Nat → Int32 → Int32 → Option Int32
  | 0, _, _ => none
  | k + 1, y2, y3 => if 1024 ≤ y3 then K y2 else ld (ga σ 11) 1024 y2 (fun v2 => if v2 = 0 then K y2 else ld (ga σ 10) 300 (v2 - 1) (fun v3 => if v3 = y1 then K y2 else lt ((y2 + 1) &&& 1023) (fun v4 => lt (y3 + 1) (fun v5 => LX6_slotOf_10 σ y1 K k v4 v5))))
def f_X6_slotOf (n : Nat) (σ : SC) (a1 : Int32) : Option Int32 := lt (((a1 * (-1640531535)).toUInt32 >>> ((22 : Int32).toUInt32 &&& Int32.toUInt32 31)).toInt32) (fun v1 => LX6_slotOf_10 σ a1 (fun w6 => some w6) n v1 0)
theorem mi_X6_slotOf : MI yX6_slotOf cX6_slotOf 5 (some .int) 1 := ⟨im_X6_slotOf, se_X6_slotOf, in_X6, co_X6_slotOf, by decide, by decide, by decide +kernel⟩
set_option maxRecDepth 100000 in
set_option maxHeartbeats 4000000 in
theorem ct_X6_slotOf (l : Launch) (n : Nat) (G : EN) (A : Nat → Nat) (σ : SC) (sz : Nat) (a1 : Int32) {r0 : Int32} (h : f_X6_slotOf n σ a1 = some r0) : CT l yX6_slotOf cX6_slotOf 5 (some .int) rmX6_slotOf G sz [.ref (A 17), .int a1] (wC G A σ) (QI G (va_A (wC G A σ) sz) r0 (wC G A σ)) := by
  unfold f_X6_slotOf at h
  refine CI.intro (lv := [(0, .ref (A 17)), (1, .int a1)]) (by decide) (Nat.le_of_ble_eq_true rfl) rfl ?_
  intro p e s m args below meth c Q B S hret H locs ls hW hl
  have hx := S.1
  have hb := S.2.1
  refine lv_iload_n hx hb dX6_slotOf_0 rfl (lv_at hl 1 rfl) ?_
  refine lv_ldc (v := (-1640531535)) hx hb S.2.2.2.1 (S.2.2.2.2 _ lk_X6_58) dX6_slotOf_1 ?_
  refine lv_imul hx hb dX6_slotOf_3 ?_
  refine lv_bipush (v := 22) hx hb dX6_slotOf_4 (by decide) ?_
  refine lv_iushr hx hb dX6_slotOf_6 rfl ?_
  refine nm_i h (fun v1 h => ?_)
  refine lv_istore_n (lv' := [(2, .int v1), (0, .ref (A 17)), (1, .int a1)]) hx hb dX6_slotOf_7 rfl hl (by decide) rfl (fun ls hl => ?_)
  refine lv_iconst (v := 0) hx hb dX6_slotOf_8 (by decide) ?_
  refine lv_istore_n (lv' := [(3, .int 0), (2, .int v1), (0, .ref (A 17)), (1, .int a1)]) hx hb dX6_slotOf_9 rfl hl (by decide) rfl (fun ls hl => ?_)
  have hL10 : ∀ (y1 : Int32) (K : Int32 → Option Int32), (∀ (z2 : Int32) (H : Heap) (locs : List Loc) (ls : Array Slot), WS G B s (wC G A σ) H locs → lv_has ls 5 [(2, .int z2)] → K z2 = some r0 → W p l e rmX6_slotOf s m args below meth c H locs 0 0 Q (F0 m 60 ls [])) → ∀ (k : Nat)  (y2 : Int32) (y3 : Int32)  (H : Heap) (locs : List Loc) (ls : Array Slot), WS G B s (wC G A σ) H locs → lv_has ls 5 [(0, .ref (A 17)), (1, .int y1), (2, .int y2), (3, .int y3)] → LX6_slotOf_10 σ y1 K k y2 y3 = some r0 → W p l e rmX6_slotOf s m args below meth c H locs 0 0 Q (F0 m 10 ls []) := by
    intro y1 K hK k
    induction k with
    | zero => intro y2 y3 H locs ls hW hl h; rw [LX6_slotOf_10] at h; cases h
    | succ k ih =>
      intro y2 y3 H locs ls hW hl h
      rw [LX6_slotOf_10] at h
      refine lv_iload_n hx hb dX6_slotOf_10 rfl (lv_at hl 3 rfl) ?_
      refine lv_sipush (v := 1024) hx hb dX6_slotOf_11 (by decide) ?_
      refine bc_ge (tgt := 60) hx hb h dX6_slotOf_14 (by decide) (fun _ h => ?_) (fun _ h => ?_)
      · exact hK y2 _ _ _ hW (lv_sub hl [2] rfl) h
      · refine lv_aload_n hx hb dX6_slotOf_17 rfl (lv_at hl 0 rfl) ?_
        refine gC_X6_slots S hW lk_X6_15 dX6_slotOf_18 ?_
        refine lv_iload_n hx hb dX6_slotOf_21 rfl (lv_at hl 2 rfl) ?_
        refine aC_19 S hW h dX6_slotOf_22 (fun v2 _ h => ?_)
        refine lv_istore (lv' := [(4, .int v2), (0, .ref (A 17)), (1, .int y1), (2, .int y2), (3, .int y3)]) hx hb dX6_slotOf_23 hl (by decide) rfl (fun ls hl => ?_)
        refine lv_iload hx hb dX6_slotOf_25 (lv_at hl 0 rfl) ?_
        refine bz_eq (tgt := 60) hx hb h dX6_slotOf_27 (by decide) (fun _ h => ?_) (fun _ h => ?_)
        · exact hK y2 _ _ _ hW (lv_sub hl [3] rfl) h
        · refine lv_aload_n hx hb dX6_slotOf_30 rfl (lv_at hl 1 rfl) ?_
          refine gC_X6_states S hW lk_X6_9 dX6_slotOf_31 ?_
          refine lv_iload hx hb dX6_slotOf_34 (lv_at hl 0 rfl) ?_
          refine lv_iconst (v := 1) hx hb dX6_slotOf_36 (by decide) ?_
          refine lv_isub hx hb dX6_slotOf_37 ?_
          refine aC_18 S hW h dX6_slotOf_38 (fun v3 _ h => ?_)
          refine lv_iload_n hx hb dX6_slotOf_39 rfl (lv_at hl 2 rfl) ?_
          refine bc_ne (tgt := 46) hx hb h dX6_slotOf_40 (by decide) (fun _ h => ?_) (fun _ h => ?_)
          · refine lv_goto (tgt := 60) hx hb dX6_slotOf_43 (by decide) ?_
            exact hK y2 _ _ _ hW (lv_sub hl [3] rfl) h
          · refine lv_iload_n hx hb dX6_slotOf_46 rfl (lv_at hl 3 rfl) ?_
            refine lv_iconst (v := 1) hx hb dX6_slotOf_47 (by decide) ?_
            refine lv_iadd hx hb dX6_slotOf_48 ?_
            refine lv_sipush (v := 1023) hx hb dX6_slotOf_49 (by decide) ?_
            refine lv_iand hx hb dX6_slotOf_52 ?_
            refine nm_i h (fun v4 h => ?_)
            refine lv_istore_n (lv' := [(2, .int v4), (4, .int v2), (0, .ref (A 17)), (1, .int y1), (3, .int y3)]) hx hb dX6_slotOf_53 rfl hl (by decide) rfl (fun ls hl => ?_)
            refine w_iinc (lv' := [(2, .int v4), (4, .int v2), (0, .ref (A 17)), (1, .int y1)]) hx hb dX6_slotOf_54 hl (k := 4) rfl (by decide) (by decide) rfl h (fun v5 ls hl h => ?_)
            refine lv_goto (tgt := 10) hx hb dX6_slotOf_57 (by decide) ?_
            exact ih v4 v5 _ _ _ hW (lv_sub hl [3, 4, 1, 0] rfl) h
  refine hL10 a1 _ (fun w6 H locs ls hW hl h => ?_) n v1 0 _ _ _ hW (lv_sub hl [2, 3, 1, 0] rfl) h
  refine lv_iload_n hx hb dX6_slotOf_60 rfl (lv_at hl 0 rfl) ?_
  exact hret H locs _ ls _ (Option.some.inj h) rfl hW dX6_slotOf_61
def rmX6_find : Room := { frames := 1, cells := 0, slots := 0, locals := 24 }
def f_X6_find (n : Nat) (σ : SC) (a1 : Int32) : Option Int32 := bd (f_X6_slotOf n σ a1) (fun v2 => ld (ga σ 11) 1024 v2 (fun v3 => some (v3 - 1)))
theorem mi_X6_find : MI yX6_find cX6_find 2 (some .int) 1 := ⟨im_X6_find, se_X6_find, in_X6, co_X6_find, by decide, by decide, by decide +kernel⟩
set_option maxRecDepth 100000 in
set_option maxHeartbeats 4000000 in
theorem ct_X6_find (l : Launch) (n : Nat) (G : EN) (A : Nat → Nat) (σ : SC) (sz : Nat) (a1 : Int32) {r0 : Int32} (h : f_X6_find n σ a1 = some r0) : CT l yX6_find cX6_find 2 (some .int) rmX6_find G sz [.ref (A 17), .int a1] (wC G A σ) (QI G (va_A (wC G A σ) sz) r0 (wC G A σ)) := by
  unfold f_X6_find at h
  refine CI.intro (lv := [(0, .ref (A 17)), (1, .int a1)]) (by decide) (Nat.le_of_ble_eq_true rfl) rfl ?_
  intro p e s m args below meth c Q B S hret H locs ls hW hl
  have hx := S.1
  have hb := S.2.1
  refine lv_aload_n hx hb dX6_find_0 rfl (lv_at hl 0 rfl) ?_
  refine gC_X6_slots S hW lk_X6_15 dX6_find_1 ?_
  refine lv_aload_n hx hb dX6_find_4 rfl (lv_at hl 0 rfl) ?_
  refine lv_iload_n hx hb dX6_find_5 rfl (lv_at hl 1 rfl) ?_
  obtain ⟨v2, h1, h⟩ := bd_o h
  refine back_i (rest := [.ref (A 19)]) hW (run_V S hW (ct_X6_slotOf l n G A σ _ a1 h1) mi_X6_slotOf lk_X6_54 (eC_17 G A σ) rfl rfl rfl hl (Nat.le_of_ble_eq_true rfl) dX6_find_6 ⟨Nat.le_of_ble_eq_true rfl, Nat.le_of_ble_eq_true rfl⟩ rfl rfl) (fun H locs hW => ?_)
  refine aC_19 S hW h dX6_find_9 (fun v3 _ h => ?_)
  refine lv_iconst (v := 1) hx hb dX6_find_10 (by decide) ?_
  refine lv_isub hx hb dX6_find_11 ?_
  exact hret H locs _ ls _ (Option.some.inj h) rfl hW dX6_find_12
def rmX6_enter : Room := { frames := 1, cells := 0, slots := 0, locals := 24 }
def f_X6_enter (n : Nat) (σ : SC) (a1 : Int32) : Option SC := bd (f_X6_slotOf n σ a1) (fun v2 => ld (ga σ 11) 1024 v2 (fun v3 => if v3 = 0 then if (gi σ 14) < 300 then ck 300 (gi σ 14) (lt (sa σ 10 (upd (ga σ 10) (gi σ 14).toNatClampNeg a1)) (fun σ4 => lt (si σ4 14 ((gi σ4 14) + 1)) (fun σ5 => ck 1024 v2 (lt (sa σ5 11 (upd (ga σ5 11) v2.toNatClampNeg (gi σ5 14))) (fun σ6 => some σ6))))) else lt (si σ 15 1) (fun σ7 => some σ7) else some σ))
theorem mi_X6_enter : MI yX6_enter cX6_enter 3 none 1 := ⟨im_X6_enter, se_X6_enter, in_X6, co_X6_enter, by decide, by decide, by decide +kernel⟩
set_option maxRecDepth 100000 in
set_option maxHeartbeats 4000000 in
theorem ct_X6_enter (l : Launch) (n : Nat) (G : EN) (A : Nat → Nat) (σ : SC) (sz : Nat) (a1 : Int32) {σ0 : SC} (h : f_X6_enter n σ a1 = some σ0) : CT l yX6_enter cX6_enter 3 none rmX6_enter G sz [.ref (A 17), .int a1] (wC G A σ) (QV G (va_A (wC G A σ) sz) (wC G A σ0)) := by
  unfold f_X6_enter at h
  refine CV.intro (lv := [(0, .ref (A 17)), (1, .int a1)]) (by decide) (Nat.le_of_ble_eq_true rfl) rfl ?_
  intro p e s m args below meth c Q B S hret H locs ls hW hl
  have hx := S.1
  have hb := S.2.1
  refine lv_aload_n hx hb dX6_enter_0 rfl (lv_at hl 0 rfl) ?_
  refine lv_iload_n hx hb dX6_enter_1 rfl (lv_at hl 1 rfl) ?_
  obtain ⟨v2, h1, h⟩ := bd_o h
  refine back_i (rest := []) hW (run_V S hW (ct_X6_slotOf l n G A σ _ a1 h1) mi_X6_slotOf lk_X6_54 (eC_17 G A σ) rfl rfl rfl hl (Nat.le_of_ble_eq_true rfl) dX6_enter_2 ⟨Nat.le_of_ble_eq_true rfl, Nat.le_of_ble_eq_true rfl⟩ rfl rfl) (fun H locs hW => ?_)
  refine lv_istore_n (lv' := [(2, .int v2), (0, .ref (A 17)), (1, .int a1)]) hx hb dX6_enter_5 rfl hl (by decide) rfl (fun ls hl => ?_)
  refine lv_aload_n hx hb dX6_enter_6 rfl (lv_at hl 1 rfl) ?_
  refine gC_X6_slots S hW lk_X6_15 dX6_enter_7 ?_
  refine lv_iload_n hx hb dX6_enter_10 rfl (lv_at hl 0 rfl) ?_
  refine aC_19 S hW h dX6_enter_11 (fun v3 _ h => ?_)
  refine bz_eq (tgt := 16) hx hb h dX6_enter_12 (by decide) (fun _ h => ?_) (fun _ h => ?_)
  · refine lv_aload_n hx hb dX6_enter_16 rfl (lv_at hl 1 rfl) ?_
    refine gC_X6_count S hW lk_X6_18 dX6_enter_17 ?_
    refine lv_sipush (v := 300) hx hb dX6_enter_20 (by decide) ?_
    refine bc_lt (tgt := 32) hx hb h dX6_enter_23 (by decide) (fun _ h => ?_) (fun _ h => ?_)
    · refine lv_aload_n hx hb dX6_enter_32 rfl (lv_at hl 1 rfl) ?_
      refine gC_X6_states S hW lk_X6_9 dX6_enter_33 ?_
      refine lv_aload_n hx hb dX6_enter_36 rfl (lv_at hl 1 rfl) ?_
      refine gC_X6_count S hW lk_X6_18 dX6_enter_37 ?_
      refine lv_iload_n hx hb dX6_enter_40 rfl (lv_at hl 2 rfl) ?_
      refine sC_18 S hW h dX6_enter_41 (fun σ4 H locs eσ4 _ h hW => ?_)
      have h := lt_at eσ4 h
      refine lv_aload_n hx hb dX6_enter_42 rfl (lv_at hl 1 rfl) ?_
      refine lv_dup hx hb dX6_enter_43 rfl ?_
      refine gC_X6_count S hW lk_X6_18 dX6_enter_44 ?_
      refine lv_iconst (v := 1) hx hb dX6_enter_47 (by decide) ?_
      refine lv_iadd hx hb dX6_enter_48 ?_
      refine pC_X6_count S hW lk_X6_18 dX6_enter_49 (fun σ5 H locs eσ5 hW => ?_)
      have h := lt_at eσ5 h
      refine lv_aload_n hx hb dX6_enter_52 rfl (lv_at hl 1 rfl) ?_
      refine gC_X6_slots S hW lk_X6_15 dX6_enter_53 ?_
      refine lv_iload_n hx hb dX6_enter_56 rfl (lv_at hl 0 rfl) ?_
      refine lv_aload_n hx hb dX6_enter_57 rfl (lv_at hl 1 rfl) ?_
      refine gC_X6_count S hW lk_X6_18 dX6_enter_58 ?_
      refine sC_19 S hW h dX6_enter_61 (fun σ6 H locs eσ6 _ h hW => ?_)
      have h := lt_at eσ6 h
      exact ret_vs (wf := wC G A) hret h hW dX6_enter_62
    · refine lv_aload_n hx hb dX6_enter_26 rfl (lv_at hl 1 rfl) ?_
      refine lv_iconst (v := 1) hx hb dX6_enter_27 (by decide) ?_
      refine pC_X6_tooMany (Or.inr rfl) S hW lk_X6_22 dX6_enter_28 (fun σ7 H locs eσ7 hW => ?_)
      have h := lt_at eσ7 h
      exact ret_vs (wf := wC G A) hret h hW dX6_enter_31
  · exact ret_vs (wf := wC G A) hret h hW dX6_enter_15
def rmX6_explore : Room := { frames := 12, cells := 0, slots := 0, locals := 400 }
def LX6_explore_62 (n : Nat) (y2 : Int32) (K : SC → Option SC) : Nat → SC → Int32 → Option SC
  | 0, _, _ => none
  | k + 1, σ, y3 => if (gi σ 6) ≤ y3 then K σ else if (gi σ 15) = 0 then ld (ga σ 10) 300 y2 (fun v7 => bd (f_X0_isAllowed σ v7 y3) (fun v9 => if v9 = 0 then lt (y3 + 1) (fun v10 => LX6_explore_62 n y2 K k σ v10) else ld (ga σ 10) 300 y2 (fun v11 => bd (f_X0_after σ v11 y3) (fun v13 => bd (f_X6_enter n σ v13) (fun σ15 => lt (y3 + 1) (fun v16 => LX6_explore_62 n y2 K k σ15 v16)))))) else K σ
def LX6_explore_38 (n : Nat) (K : SC → Option SC) : Nat → SC → Int32 → Option SC
  | 0, _, _ => none
  | k + 1, σ, y2 => if 300 ≤ y2 then K σ else if (gi σ 14) ≤ y2 then K σ else if (gi σ 15) = 0 then LX6_explore_62 n y2 (fun σ17 => lt (y2 + 1) (fun v18 => LX6_explore_38 n K k σ17 v18)) n σ 0 else K σ
def f_X6_explore (n : Nat) (σ : SC) (a1 : Int32) : Option SC := if (gi σ 16) = 0 then lt (si σ 16 1) (fun σ1 => lt (si σ1 14 0) (fun σ2 => lt (si σ2 15 0) (fun σ3 => lt (sa σ3 11 (fun _ => 0)) (fun σ4 => bd (f_X6_enter n σ4 a1) (fun σ6 => LX6_explore_38 n (fun σ19 => some σ19) n σ6 0))))) else some σ
theorem mi_X6_explore : MI yX6_explore cX6_explore 4 none 1 := ⟨im_X6_explore, se_X6_explore, in_X6, co_X6_explore, by decide, by decide, by decide +kernel⟩
set_option maxRecDepth 100000 in
set_option maxHeartbeats 4000000 in
theorem ct_X6_explore (l : Launch) (n : Nat) (G : EN) (A : Nat → Nat) (σ : SC) (sz : Nat) (a1 : Int32) {σ0 : SC} (h : f_X6_explore n σ a1 = some σ0) : CT l yX6_explore cX6_explore 4 none rmX6_explore G sz [.ref (A 17), .int a1] (wC G A σ) (QV G (va_A (wC G A σ) sz) (wC G A σ0)) := by
  unfold f_X6_explore at h
  refine CV.intro (lv := [(0, .ref (A 17)), (1, .int a1)]) (by decide) (Nat.le_of_ble_eq_true rfl) rfl ?_
  intro p e s m args below meth c Q B S hret H locs ls hW hl
  have hx := S.1
  have hb := S.2.1
  refine lv_aload_n hx hb dX6_explore_0 rfl (lv_at hl 0 rfl) ?_
  refine gC_X6_fresh S hW lk_X6_26 dX6_explore_1 ?_
  refine bz_eq (tgt := 8) hx hb h dX6_explore_4 (by decide) (fun _ h => ?_) (fun _ h => ?_)
  · refine lv_aload_n hx hb dX6_explore_8 rfl (lv_at hl 0 rfl) ?_
    refine lv_iconst (v := 1) hx hb dX6_explore_9 (by decide) ?_
    refine pC_X6_fresh (Or.inr rfl) S hW lk_X6_26 dX6_explore_10 (fun σ1 H locs eσ1 hW => ?_)
    have h := lt_at eσ1 h
    refine lv_aload_n hx hb dX6_explore_13 rfl (lv_at hl 0 rfl) ?_
    refine lv_iconst (v := 0) hx hb dX6_explore_14 (by decide) ?_
    refine pC_X6_count S hW lk_X6_18 dX6_explore_15 (fun σ2 H locs eσ2 hW => ?_)
    have h := lt_at eσ2 h
    refine lv_aload_n hx hb dX6_explore_18 rfl (lv_at hl 0 rfl) ?_
    refine lv_iconst (v := 0) hx hb dX6_explore_19 (by decide) ?_
    refine pC_X6_tooMany (Or.inl rfl) S hW lk_X6_22 dX6_explore_20 (fun σ3 H locs eσ3 hW => ?_)
    have h := lt_at eσ3 h
    refine lv_aload_n hx hb dX6_explore_23 rfl (lv_at hl 0 rfl) ?_
    refine gC_X6_slots S hW lk_X6_15 dX6_explore_24 ?_
    refine lv_iconst (v := 0) hx hb dX6_explore_27 (by decide) ?_
    refine back_v (rest := []) hW (run_S S hW (ct_fillI l G _ (eC_19 G A σ3) (uCa_11 G A σ3 _) (by decide)) ms_J7_fill_53178 lk_X6_33 rfl rfl hl (Nat.le_of_ble_eq_true rfl) dX6_explore_28 ⟨Nat.le_of_ble_eq_true rfl, Nat.le_of_ble_eq_true rfl⟩ rfl rfl) (fun H locs hW => ?_)
    obtain ⟨σ4, eσ4, h⟩ := lt_o h
    rw [← eσ4] at hW
    refine lv_aload_n hx hb dX6_explore_31 rfl (lv_at hl 0 rfl) ?_
    refine lv_iload_n hx hb dX6_explore_32 rfl (lv_at hl 1 rfl) ?_
    obtain ⟨σ6, h5, h⟩ := bd_o h
    refine back_v (rest := []) hW (run_V S hW (ct_X6_enter l n G A σ4 _ a1 h5) mi_X6_enter lk_X6_39 (eC_17 G A σ4) rfl rfl rfl hl (Nat.le_of_ble_eq_true rfl) dX6_explore_33 ⟨Nat.le_of_ble_eq_true rfl, Nat.le_of_ble_eq_true rfl⟩ rfl rfl) (fun H locs hW => ?_)
    refine lv_iconst (v := 0) hx hb dX6_explore_36 (by decide) ?_
    refine lv_istore_n (lv' := [(2, .int 0), (0, .ref (A 17)), (1, .int a1)]) hx hb dX6_explore_37 rfl hl (by decide) rfl (fun ls hl => ?_)
    have hL38 : ∀  (K : SC → Option SC), (∀ (σ : SC) (H : Heap) (locs : List Loc) (ls : Array Slot), WS G B s (wC G A σ) H locs → lv_has ls 4 [] → K σ = some σ0 → W p l e rmX6_explore s m args below meth c H locs 0 0 Q (F0 m 127 ls [])) → ∀ (k : Nat) (σ : SC) (y2 : Int32)  (H : Heap) (locs : List Loc) (ls : Array Slot), WS G B s (wC G A σ) H locs → lv_has ls 4 [(0, .ref (A 17)), (2, .int y2)] → LX6_explore_38 n K k σ y2 = some σ0 → W p l e rmX6_explore s m args below meth c H locs 0 0 Q (F0 m 38 ls []) := by
      intro  K hK k
      induction k with
      | zero => intro σ y2 H locs ls hW hl h; rw [LX6_explore_38] at h; cases h
      | succ k ih =>
        intro σ y2 H locs ls hW hl h
        rw [LX6_explore_38] at h
        refine lv_iload_n hx hb dX6_explore_38 rfl (lv_at hl 1 rfl) ?_
        refine lv_sipush (v := 300) hx hb dX6_explore_39 (by decide) ?_
        refine bc_ge (tgt := 127) hx hb h dX6_explore_42 (by decide) (fun _ h => ?_) (fun _ h => ?_)
        · exact hK σ _ _ _ hW (lv_sub hl [] rfl) h
        · refine lv_iload_n hx hb dX6_explore_45 rfl (lv_at hl 1 rfl) ?_
          refine lv_aload_n hx hb dX6_explore_46 rfl (lv_at hl 0 rfl) ?_
          refine gC_X6_count S hW lk_X6_18 dX6_explore_47 ?_
          refine bc_ge (tgt := 127) hx hb h dX6_explore_50 (by decide) (fun _ h => ?_) (fun _ h => ?_)
          · exact hK σ _ _ _ hW (lv_sub hl [] rfl) h
          · refine lv_aload_n hx hb dX6_explore_53 rfl (lv_at hl 0 rfl) ?_
            refine gC_X6_tooMany S hW lk_X6_22 dX6_explore_54 ?_
            refine bz_ne (tgt := 127) hx hb h dX6_explore_57 (by decide) (fun _ h => ?_) (fun _ h => ?_)
            · refine lv_iconst (v := 0) hx hb dX6_explore_60 (by decide) ?_
              refine lv_istore_n (lv' := [(3, .int 0), (0, .ref (A 17)), (2, .int y2)]) hx hb dX6_explore_61 rfl hl (by decide) rfl (fun ls hl => ?_)
              have hL62 : ∀ (y2 : Int32) (K : SC → Option SC), (∀ (σ : SC) (H : Heap) (locs : List Loc) (ls : Array Slot), WS G B s (wC G A σ) H locs → lv_has ls 4 [(0, .ref (A 17)), (2, .int y2)] → K σ = some σ0 → W p l e rmX6_explore s m args below meth c H locs 0 0 Q (F0 m 121 ls [])) → ∀ (k : Nat) (σ : SC) (y3 : Int32)  (H : Heap) (locs : List Loc) (ls : Array Slot), WS G B s (wC G A σ) H locs → lv_has ls 4 [(0, .ref (A 17)), (2, .int y2), (3, .int y3)] → LX6_explore_62 n y2 K k σ y3 = some σ0 → W p l e rmX6_explore s m args below meth c H locs 0 0 Q (F0 m 62 ls []) := by
                intro y2 K hK k
                induction k with
                | zero => intro σ y3 H locs ls hW hl h; rw [LX6_explore_62] at h; cases h
                | succ k ih =>
                  intro σ y3 H locs ls hW hl h
                  rw [LX6_explore_62] at h
                  refine lv_iload_n hx hb dX6_explore_62 rfl (lv_at hl 2 rfl) ?_
                  refine lv_aload_n hx hb dX6_explore_63 rfl (lv_at hl 0 rfl) ?_
                  refine gC_X6_table S hW lk_X6_29 dX6_explore_64 ?_
                  refine gC_X0_count S hW lk_X6_43 dX6_explore_67 ?_
                  refine bc_ge (tgt := 121) hx hb h dX6_explore_70 (by decide) (fun _ h => ?_) (fun _ h => ?_)
                  · exact hK σ _ _ _ hW (lv_sub hl [0, 1] rfl) h
                  · refine lv_aload_n hx hb dX6_explore_73 rfl (lv_at hl 0 rfl) ?_
                    refine gC_X6_tooMany S hW lk_X6_22 dX6_explore_74 ?_
                    refine bz_ne (tgt := 121) hx hb h dX6_explore_77 (by decide) (fun _ h => ?_) (fun _ h => ?_)
                    · refine lv_aload_n hx hb dX6_explore_80 rfl (lv_at hl 0 rfl) ?_
                      refine gC_X6_table S hW lk_X6_29 dX6_explore_81 ?_
                      refine lv_aload_n hx hb dX6_explore_84 rfl (lv_at hl 0 rfl) ?_
                      refine gC_X6_states S hW lk_X6_9 dX6_explore_85 ?_
                      refine lv_iload_n hx hb dX6_explore_88 rfl (lv_at hl 1 rfl) ?_
                      refine aC_18 S hW h dX6_explore_89 (fun v7 _ h => ?_)
                      refine lv_iload_n hx hb dX6_explore_90 rfl (lv_at hl 2 rfl) ?_
                      obtain ⟨v9, h8, h⟩ := bd_o h
                      refine back_i (rest := []) hW (run_V S hW (ct_X0_isAllowed l G A σ _ v7 y3 h8) mi_X0_isAllowed lk_X6_46 (eC_1 G A σ) rfl rfl rfl hl (Nat.le_of_ble_eq_true rfl) dX6_explore_91 ⟨Nat.le_of_ble_eq_true rfl, Nat.le_of_ble_eq_true rfl⟩ rfl rfl) (fun H locs hW => ?_)
                      refine bz_eq (tgt := 115) hx hb h dX6_explore_94 (by decide) (fun _ h => ?_) (fun _ h => ?_)
                      · refine w_iinc (lv' := [(0, .ref (A 17)), (2, .int y2)]) hx hb dX6_explore_115 hl (k := 2) rfl (by decide) (by decide) rfl h (fun v10 ls hl h => ?_)
                        refine lv_goto (tgt := 62) hx hb dX6_explore_118 (by decide) ?_
                        exact ih σ v10 _ _ _ hW (lv_sub hl [1, 2, 0] rfl) h
                      · refine lv_aload_n hx hb dX6_explore_97 rfl (lv_at hl 0 rfl) ?_
                        refine lv_aload_n hx hb dX6_explore_98 rfl (lv_at hl 0 rfl) ?_
                        refine gC_X6_table S hW lk_X6_29 dX6_explore_99 ?_
                        refine lv_aload_n hx hb dX6_explore_102 rfl (lv_at hl 0 rfl) ?_
                        refine gC_X6_states S hW lk_X6_9 dX6_explore_103 ?_
                        refine lv_iload_n hx hb dX6_explore_106 rfl (lv_at hl 1 rfl) ?_
                        refine aC_18 S hW h dX6_explore_107 (fun v11 _ h => ?_)
                        refine lv_iload_n hx hb dX6_explore_108 rfl (lv_at hl 2 rfl) ?_
                        obtain ⟨v13, h12, h⟩ := bd_o h
                        refine back_i (rest := [.ref (A 17)]) hW (run_V S hW (ct_X0_after l G A σ _ v11 y3 h12) mi_X0_after lk_X6_50 (eC_1 G A σ) rfl rfl rfl hl (Nat.le_of_ble_eq_true rfl) dX6_explore_109 ⟨Nat.le_of_ble_eq_true rfl, Nat.le_of_ble_eq_true rfl⟩ rfl rfl) (fun H locs hW => ?_)
                        obtain ⟨σ15, h14, h⟩ := bd_o h
                        refine back_v (rest := []) hW (run_V S hW (ct_X6_enter l n G A σ _ v13 h14) mi_X6_enter lk_X6_39 (eC_17 G A σ) rfl rfl rfl hl (Nat.le_of_ble_eq_true rfl) dX6_explore_112 ⟨Nat.le_of_ble_eq_true rfl, Nat.le_of_ble_eq_true rfl⟩ rfl rfl) (fun H locs hW => ?_)
                        refine w_iinc (lv' := [(0, .ref (A 17)), (2, .int y2)]) hx hb dX6_explore_115 hl (k := 2) rfl (by decide) (by decide) rfl h (fun v16 ls hl h => ?_)
                        refine lv_goto (tgt := 62) hx hb dX6_explore_118 (by decide) ?_
                        exact ih σ15 v16 _ _ _ hW (lv_sub hl [1, 2, 0] rfl) h
                    · exact hK σ _ _ _ hW (lv_sub hl [0, 1] rfl) h
              refine hL62 y2 _ (fun σ17 H locs ls hW hl h => ?_) n σ 0 _ _ _ hW (lv_sub hl [1, 2, 0] rfl) h
              refine w_iinc (lv' := [(0, .ref (A 17))]) hx hb dX6_explore_121 hl (k := 1) rfl (by decide) (by decide) rfl h (fun v18 ls hl h => ?_)
              refine lv_goto (tgt := 38) hx hb dX6_explore_124 (by decide) ?_
              exact ih σ17 v18 _ _ _ hW (lv_sub hl [1, 0] rfl) h
            · exact hK σ _ _ _ hW (lv_sub hl [] rfl) h
    refine hL38  _ (fun σ19 H locs ls hW hl h => ?_) n σ6 0 _ _ _ hW (lv_sub hl [1, 0] rfl) h
    exact ret_vs (wf := wC G A) hret h hW dX6_explore_127
  · exact ret_vs (wf := wC G A) hret h hW dX6_explore_7
def rmX6_everWith : Room := { frames := 0, cells := 0, slots := 0, locals := 0 }
def LX6_everWith_4 (σ : SC) (y1 : Int32) (K : Int32 → Option Int32) : Nat → Int32 → Int32 → Option Int32
  | 0, _, _ => none
  | k + 1, y2, y3 => if (gi σ 14) ≤ y3 then K y2 else ld (ga σ 10) 300 y3 (fun v1 => if (y1 &&& (v1 ^^^ (-1))) = 0 then ld (ga σ 10) 300 y3 (fun v3 => lt (y2 ||| v3) (fun v4 => lt (y3 + 1) (fun v5 => LX6_everWith_4 σ y1 K k v4 v5))) else lt (y3 + 1) (fun v2 => LX6_everWith_4 σ y1 K k y2 v2))
def f_X6_everWith (n : Nat) (σ : SC) (a1 : Int32) : Option Int32 := LX6_everWith_4 σ a1 (fun w6 => some w6) n 0 0
theorem mi_X6_everWith : MI yX6_everWith cX6_everWith 4 (some .int) 1 := ⟨im_X6_everWith, se_X6_everWith, in_X6, co_X6_everWith, by decide, by decide, by decide +kernel⟩
set_option maxRecDepth 100000 in
set_option maxHeartbeats 4000000 in
theorem ct_X6_everWith (l : Launch) (n : Nat) (G : EN) (A : Nat → Nat) (σ : SC) (sz : Nat) (a1 : Int32) {r0 : Int32} (h : f_X6_everWith n σ a1 = some r0) : CT l yX6_everWith cX6_everWith 4 (some .int) rmX6_everWith G sz [.ref (A 17), .int a1] (wC G A σ) (QI G (va_A (wC G A σ) sz) r0 (wC G A σ)) := by
  unfold f_X6_everWith at h
  refine CI.intro (lv := [(0, .ref (A 17)), (1, .int a1)]) (by decide) (Nat.le_of_ble_eq_true rfl) rfl ?_
  intro p e s m args below meth c Q B S hret H locs ls hW hl
  have hx := S.1
  have hb := S.2.1
  refine lv_iconst (v := 0) hx hb dX6_everWith_0 (by decide) ?_
  refine lv_istore_n (lv' := [(2, .int 0), (0, .ref (A 17)), (1, .int a1)]) hx hb dX6_everWith_1 rfl hl (by decide) rfl (fun ls hl => ?_)
  refine lv_iconst (v := 0) hx hb dX6_everWith_2 (by decide) ?_
  refine lv_istore_n (lv' := [(3, .int 0), (2, .int 0), (0, .ref (A 17)), (1, .int a1)]) hx hb dX6_everWith_3 rfl hl (by decide) rfl (fun ls hl => ?_)
  have hL4 : ∀ (y1 : Int32) (K : Int32 → Option Int32), (∀ (z2 : Int32) (H : Heap) (locs : List Loc) (ls : Array Slot), WS G B s (wC G A σ) H locs → lv_has ls 4 [(2, .int z2)] → K z2 = some r0 → W p l e rmX6_everWith s m args below meth c H locs 0 0 Q (F0 m 40 ls [])) → ∀ (k : Nat)  (y2 : Int32) (y3 : Int32)  (H : Heap) (locs : List Loc) (ls : Array Slot), WS G B s (wC G A σ) H locs → lv_has ls 4 [(0, .ref (A 17)), (1, .int y1), (2, .int y2), (3, .int y3)] → LX6_everWith_4 σ y1 K k y2 y3 = some r0 → W p l e rmX6_everWith s m args below meth c H locs 0 0 Q (F0 m 4 ls []) := by
    intro y1 K hK k
    induction k with
    | zero => intro y2 y3 H locs ls hW hl h; rw [LX6_everWith_4] at h; cases h
    | succ k ih =>
      intro y2 y3 H locs ls hW hl h
      rw [LX6_everWith_4] at h
      refine lv_iload_n hx hb dX6_everWith_4 rfl (lv_at hl 3 rfl) ?_
      refine lv_aload_n hx hb dX6_everWith_5 rfl (lv_at hl 0 rfl) ?_
      refine gC_X6_count S hW lk_X6_18 dX6_everWith_6 ?_
      refine bc_ge (tgt := 40) hx hb h dX6_everWith_9 (by decide) (fun _ h => ?_) (fun _ h => ?_)
      · exact hK y2 _ _ _ hW (lv_sub hl [2] rfl) h
      · refine lv_iload_n hx hb dX6_everWith_12 rfl (lv_at hl 1 rfl) ?_
        refine lv_aload_n hx hb dX6_everWith_13 rfl (lv_at hl 0 rfl) ?_
        refine gC_X6_states S hW lk_X6_9 dX6_everWith_14 ?_
        refine lv_iload_n hx hb dX6_everWith_17 rfl (lv_at hl 3 rfl) ?_
        refine aC_18 S hW h dX6_everWith_18 (fun v1 _ h => ?_)
        refine lv_iconst (v := (-1)) hx hb dX6_everWith_19 (by decide) ?_
        refine lv_ixor hx hb dX6_everWith_20 ?_
        refine lv_iand hx hb dX6_everWith_21 ?_
        refine bz_ne (tgt := 34) hx hb h dX6_everWith_22 (by decide) (fun _ h => ?_) (fun _ h => ?_)
        · refine lv_iload_n hx hb dX6_everWith_25 rfl (lv_at hl 2 rfl) ?_
          refine lv_aload_n hx hb dX6_everWith_26 rfl (lv_at hl 0 rfl) ?_
          refine gC_X6_states S hW lk_X6_9 dX6_everWith_27 ?_
          refine lv_iload_n hx hb dX6_everWith_30 rfl (lv_at hl 3 rfl) ?_
          refine aC_18 S hW h dX6_everWith_31 (fun v3 _ h => ?_)
          refine lv_ior hx hb dX6_everWith_32 ?_
          refine nm_i h (fun v4 h => ?_)
          refine lv_istore_n (lv' := [(2, .int v4), (0, .ref (A 17)), (1, .int y1), (3, .int y3)]) hx hb dX6_everWith_33 rfl hl (by decide) rfl (fun ls hl => ?_)
          refine w_iinc (lv' := [(2, .int v4), (0, .ref (A 17)), (1, .int y1)]) hx hb dX6_everWith_34 hl (k := 3) rfl (by decide) (by decide) rfl h (fun v5 ls hl h => ?_)
          refine lv_goto (tgt := 4) hx hb dX6_everWith_37 (by decide) ?_
          exact ih v4 v5 _ _ _ hW (lv_sub hl [2, 3, 1, 0] rfl) h
        · refine w_iinc (lv' := [(0, .ref (A 17)), (1, .int y1), (2, .int y2)]) hx hb dX6_everWith_34 hl (k := 3) rfl (by decide) (by decide) rfl h (fun v2 ls hl h => ?_)
          refine lv_goto (tgt := 4) hx hb dX6_everWith_37 (by decide) ?_
          exact ih y2 v2 _ _ _ hW (lv_sub hl [1, 2, 3, 0] rfl) h
  refine hL4 a1 _ (fun w6 H locs ls hW hl h => ?_) n 0 0 _ _ _ hW (lv_sub hl [2, 3, 1, 0] rfl) h
  refine lv_iload_n hx hb dX6_everWith_40 rfl (lv_at hl 0 rfl) ?_
  exact hret H locs _ ls _ (Option.some.inj h) rfl hW dX6_everWith_41
def rmX7_helpfulIn : Room := { frames := 14, cells := 0, slots := 0, locals := 442 }
def LX7_helpfulIn_30 (σ : SC) (y1 : Int32) (y2 : Int32) (K : Int32 → Option Int32) : Nat → Int32 → Int32 → Option Int32
  | 0, _, _ => none
  | k + 1, y3, y4 => if (gi σ 6) ≤ y4 then K y3 else bd (f_X0_isAllowed σ y1 y4) (fun v4 => if v4 = 0 then lt (y4 + 1) (fun v5 => LX7_helpfulIn_30 σ y1 y2 K k y3 v5) else ld (ga σ 1) 24 y4 (fun v6 => if (v6 &&& y2) = 0 then lt (y4 + 1) (fun v7 => LX7_helpfulIn_30 σ y1 y2 K k y3 v7) else lt (y3 ||| (1 <<< (y4 &&& 31))) (fun v8 => lt (y4 + 1) (fun v9 => LX7_helpfulIn_30 σ y1 y2 K k v8 v9))))
def f_X7_helpfulIn (n : Nat) (σ : SC) (a1 : Int32) : Option Int32 := jn (fun (u2 : Int32) => LX7_helpfulIn_30 σ a1 u2 (fun w10 => some w10) n 0 0) (fun J1 => if (gi σ 10) = 0 then J1 0 else bd (f_X3_newAt σ 1) (fun v12 => J1 ((gi σ 13) &&& v12)))
theorem mi_X7_helpfulIn : MI yX7_helpfulIn cX7_helpfulIn 5 (some .int) 1 := ⟨im_X7_helpfulIn, se_X7_helpfulIn, in_X7, co_X7_helpfulIn, by decide, by decide, by decide +kernel⟩
set_option maxRecDepth 100000 in
set_option maxHeartbeats 4000000 in
theorem ct_X7_helpfulIn (l : Launch) (n : Nat) (G : EN) (A : Nat → Nat) (σ : SC) (sz : Nat) (a1 : Int32) {r0 : Int32} (h : f_X7_helpfulIn n σ a1 = some r0) : CT l yX7_helpfulIn cX7_helpfulIn 5 (some .int) rmX7_helpfulIn G sz [.ref (A 16), .int a1] (wC G A σ) (QI G (va_A (wC G A σ) sz) r0 (wC G A σ)) := by
  unfold f_X7_helpfulIn at h
  refine CI.intro (lv := [(0, .ref (A 16)), (1, .int a1)]) (by decide) (Nat.le_of_ble_eq_true rfl) rfl ?_
  intro p e s m args below meth c Q B S hret H locs ls hW hl
  have hx := S.1
  have hb := S.2.1
  refine lv_aload_n hx hb dX7_helpfulIn_0 rfl (lv_at hl 0 rfl) ?_
  refine gC_X7_found S hW lk_X7_9 dX7_helpfulIn_1 ?_
  obtain ⟨J1, eJ1, h⟩ := jn_o h
  have hJ1 : ∀ (u2 : Int32)  (H : Heap) (locs : List Loc) (ls : Array Slot), WS G B s (wC G A σ) H locs → lv_has ls 5 [(0, .ref (A 16)), (1, .int a1)] → J1 u2 = some r0 → W p l e rmX7_helpfulIn s m args below meth c H locs 0 0 Q (F0 m 24 ls [.int u2]) := by
    subst eJ1
    intro u2 H locs ls hW hl h
    refine lv_istore_n (lv' := [(2, .int u2), (0, .ref (A 16)), (1, .int a1)]) hx hb dX7_helpfulIn_24 rfl hl (by decide) rfl (fun ls hl => ?_)
    refine lv_iconst (v := 0) hx hb dX7_helpfulIn_25 (by decide) ?_
    refine lv_istore_n (lv' := [(3, .int 0), (2, .int u2), (0, .ref (A 16)), (1, .int a1)]) hx hb dX7_helpfulIn_26 rfl hl (by decide) rfl (fun ls hl => ?_)
    refine lv_iconst (v := 0) hx hb dX7_helpfulIn_27 (by decide) ?_
    refine lv_istore (lv' := [(4, .int 0), (3, .int 0), (2, .int u2), (0, .ref (A 16)), (1, .int a1)]) hx hb dX7_helpfulIn_28 hl (by decide) rfl (fun ls hl => ?_)
    have hL30 : ∀ (y1 : Int32) (y2 : Int32) (K : Int32 → Option Int32), (∀ (z3 : Int32) (H : Heap) (locs : List Loc) (ls : Array Slot), WS G B s (wC G A σ) H locs → lv_has ls 5 [(3, .int z3)] → K z3 = some r0 → W p l e rmX7_helpfulIn s m args below meth c H locs 0 0 Q (F0 m 83 ls [])) → ∀ (k : Nat)  (y3 : Int32) (y4 : Int32)  (H : Heap) (locs : List Loc) (ls : Array Slot), WS G B s (wC G A σ) H locs → lv_has ls 5 [(0, .ref (A 16)), (1, .int y1), (2, .int y2), (3, .int y3), (4, .int y4)] → LX7_helpfulIn_30 σ y1 y2 K k y3 y4 = some r0 → W p l e rmX7_helpfulIn s m args below meth c H locs 0 0 Q (F0 m 30 ls []) := by
      intro y1 y2 K hK k
      induction k with
      | zero => intro y3 y4 H locs ls hW hl h; rw [LX7_helpfulIn_30] at h; cases h
      | succ k ih =>
        intro y3 y4 H locs ls hW hl h
        rw [LX7_helpfulIn_30] at h
        refine lv_iload hx hb dX7_helpfulIn_30 (lv_at hl 4 rfl) ?_
        refine lv_aload_n hx hb dX7_helpfulIn_32 rfl (lv_at hl 0 rfl) ?_
        refine gC_X7_table S hW lk_X7_25 dX7_helpfulIn_33 ?_
        refine gC_X0_count S hW lk_X7_83 dX7_helpfulIn_36 ?_
        refine bc_ge (tgt := 83) hx hb h dX7_helpfulIn_39 (by decide) (fun _ h => ?_) (fun _ h => ?_)
        · exact hK y3 _ _ _ hW (lv_sub hl [3] rfl) h
        · refine lv_aload_n hx hb dX7_helpfulIn_42 rfl (lv_at hl 0 rfl) ?_
          refine gC_X7_table S hW lk_X7_25 dX7_helpfulIn_43 ?_
          refine lv_iload_n hx hb dX7_helpfulIn_46 rfl (lv_at hl 1 rfl) ?_
          refine lv_iload hx hb dX7_helpfulIn_47 (lv_at hl 4 rfl) ?_
          obtain ⟨v4, h3, h⟩ := bd_o h
          refine back_i (rest := []) hW (run_V S hW (ct_X0_isAllowed l G A σ _ y1 y4 h3) mi_X0_isAllowed lk_X7_89 (eC_1 G A σ) rfl rfl rfl hl (Nat.le_of_ble_eq_true rfl) dX7_helpfulIn_49 ⟨Nat.le_of_ble_eq_true rfl, Nat.le_of_ble_eq_true rfl⟩ rfl rfl) (fun H locs hW => ?_)
          refine bz_eq (tgt := 77) hx hb h dX7_helpfulIn_52 (by decide) (fun _ h => ?_) (fun _ h => ?_)
          · refine w_iinc (lv' := [(0, .ref (A 16)), (1, .int y1), (2, .int y2), (3, .int y3)]) hx hb dX7_helpfulIn_77 hl (k := 4) rfl (by decide) (by decide) rfl h (fun v5 ls hl h => ?_)
            refine lv_goto (tgt := 30) hx hb dX7_helpfulIn_80 (by decide) ?_
            exact ih y3 v5 _ _ _ hW (lv_sub hl [1, 2, 3, 4, 0] rfl) h
          · refine lv_aload_n hx hb dX7_helpfulIn_55 rfl (lv_at hl 0 rfl) ?_
            refine gC_X7_table S hW lk_X7_25 dX7_helpfulIn_56 ?_
            refine gC_X0_makes S hW lk_X7_86 dX7_helpfulIn_59 ?_
            refine lv_iload hx hb dX7_helpfulIn_62 (lv_at hl 4 rfl) ?_
            refine aC_3 S hW h dX7_helpfulIn_64 (fun v6 _ h => ?_)
            refine lv_iload_n hx hb dX7_helpfulIn_65 rfl (lv_at hl 2 rfl) ?_
            refine lv_iand hx hb dX7_helpfulIn_66 ?_
            refine bz_eq (tgt := 77) hx hb h dX7_helpfulIn_67 (by decide) (fun _ h => ?_) (fun _ h => ?_)
            · refine w_iinc (lv' := [(0, .ref (A 16)), (1, .int y1), (2, .int y2), (3, .int y3)]) hx hb dX7_helpfulIn_77 hl (k := 4) rfl (by decide) (by decide) rfl h (fun v7 ls hl h => ?_)
              refine lv_goto (tgt := 30) hx hb dX7_helpfulIn_80 (by decide) ?_
              exact ih y3 v7 _ _ _ hW (lv_sub hl [1, 2, 3, 4, 0] rfl) h
            · refine lv_iload_n hx hb dX7_helpfulIn_70 rfl (lv_at hl 3 rfl) ?_
              refine lv_iconst (v := 1) hx hb dX7_helpfulIn_71 (by decide) ?_
              refine lv_iload hx hb dX7_helpfulIn_72 (lv_at hl 4 rfl) ?_
              refine lv_ishl hx hb dX7_helpfulIn_74 ?_
              refine lv_ior hx hb dX7_helpfulIn_75 ?_
              refine nm_i h (fun v8 h => ?_)
              refine lv_istore_n (lv' := [(3, .int v8), (0, .ref (A 16)), (1, .int y1), (2, .int y2), (4, .int y4)]) hx hb dX7_helpfulIn_76 rfl hl (by decide) rfl (fun ls hl => ?_)
              refine w_iinc (lv' := [(3, .int v8), (0, .ref (A 16)), (1, .int y1), (2, .int y2)]) hx hb dX7_helpfulIn_77 hl (k := 4) rfl (by decide) (by decide) rfl h (fun v9 ls hl h => ?_)
              refine lv_goto (tgt := 30) hx hb dX7_helpfulIn_80 (by decide) ?_
              exact ih v8 v9 _ _ _ hW (lv_sub hl [2, 3, 4, 1, 0] rfl) h
    refine hL30 a1 u2 _ (fun w10 H locs ls hW hl h => ?_) n 0 0 _ _ _ hW (lv_sub hl [3, 4, 2, 1, 0] rfl) h
    refine lv_iload_n hx hb dX7_helpfulIn_83 rfl (lv_at hl 0 rfl) ?_
    exact hret H locs _ ls _ (Option.some.inj h) rfl hW dX7_helpfulIn_84
  clear eJ1
  refine bz_eq (tgt := 23) hx hb h dX7_helpfulIn_4 (by decide) (fun _ h => ?_) (fun _ h => ?_)
  · refine lv_iconst (v := 0) hx hb dX7_helpfulIn_23 (by decide) ?_
    exact hJ1 0 _ _ _ hW (hl) h
  · refine lv_aload_n hx hb dX7_helpfulIn_7 rfl (lv_at hl 0 rfl) ?_
    refine gC_X7_wanted S hW lk_X7_22 dX7_helpfulIn_8 ?_
    refine lv_aload_n hx hb dX7_helpfulIn_11 rfl (lv_at hl 0 rfl) ?_
    refine gC_X7_levels S hW lk_X7_29 dX7_helpfulIn_12 ?_
    refine lv_iconst (v := 1) hx hb dX7_helpfulIn_15 (by decide) ?_
    obtain ⟨v12, h11, h⟩ := bd_o h
    refine back_i (rest := [.int (gi σ 13)]) hW (run_V S hW (ct_X3_newAt l G A σ _ 1 h11) mi_X3_newAt lk_X7_57 (eC_11 G A σ) rfl rfl rfl hl (Nat.le_of_ble_eq_true rfl) dX7_helpfulIn_16 ⟨Nat.le_of_ble_eq_true rfl, Nat.le_of_ble_eq_true rfl⟩ rfl rfl) (fun H locs hW => ?_)
    refine lv_iand hx hb dX7_helpfulIn_19 ?_
    refine lv_goto (tgt := 24) hx hb dX7_helpfulIn_20 (by decide) ?_
    exact hJ1 ((gi σ 13) &&& v12) _ _ _ hW (hl) h
