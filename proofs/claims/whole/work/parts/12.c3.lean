def rmX4_forget : Room := { frames := 0, cells := 0, slots := 0, locals := 0 }
def f_X4_forget (σ : SC) : Option SC := lt (si σ 18 0) (fun σ1 => lt (si σ1 19 0) (fun σ2 => some σ2))
theorem mi_X4_forget : MI yX4_forget cX4_forget 1 none 0 := ⟨im_X4_forget, se_X4_forget, in_X4, co_X4_forget, by decide, by decide, by decide +kernel⟩
set_option maxRecDepth 100000 in
set_option maxHeartbeats 4000000 in
theorem ct_X4_forget (l : Launch) (G : EN) (A : Nat → Nat) (σ : SC) (sz : Nat) {σ0 : SC} (h : f_X4_forget σ = some σ0) : CT l yX4_forget cX4_forget 1 none rmX4_forget G sz [.ref (A 20)] (wC G A σ) (QV G (va_A (wC G A σ) sz) (wC G A σ0)) := by
  unfold f_X4_forget at h
  refine CV.intro (lv := [(0, .ref (A 20))]) (by decide) (Nat.le_of_ble_eq_true rfl) rfl ?_
  intro p e s m args below meth c Q B S hret H locs ls hW hl
  have hx := S.1
  have hb := S.2.1
  refine lv_aload_n hx hb dX4_forget_0 rfl (lv_at hl 0 rfl) ?_
  refine lv_iconst (v := 0) hx hb dX4_forget_1 (by decide) ?_
  refine pC_X4_measured (Or.inl rfl) S hW lk_X4_29 dX4_forget_2 (fun σ1 H locs eσ1 hW => ?_)
  have h := lt_at eσ1 h
  refine lv_aload_n hx hb dX4_forget_5 rfl (lv_at hl 0 rfl) ?_
  refine lv_iconst (v := 0) hx hb dX4_forget_6 (by decide) ?_
  refine pC_X4_chosen (Or.inl rfl) S hW lk_X4_33 dX4_forget_7 (fun σ2 H locs eσ2 hW => ?_)
  have h := lt_at eσ2 h
  exact ret_vs (wf := wC G A) hret h hW dX4_forget_10
def rmX4_costTo : Room := { frames := 1, cells := 0, slots := 0, locals := 21 }
def f_X4_costTo (σ : SC) (a1 : Int32) : Option Int32 := if (f_X6_hasNumber σ a1) = 0 then some (-1) else ld (ga σ 12) 300 a1 (fun v1 => some (v1 / 1000))
theorem mi_X4_costTo : MI yX4_costTo cX4_costTo 2 (some .int) 1 := ⟨im_X4_costTo, se_X4_costTo, in_X4, co_X4_costTo, by decide, by decide, by decide +kernel⟩
set_option maxRecDepth 100000 in
set_option maxHeartbeats 4000000 in
theorem ct_X4_costTo (l : Launch) (G : EN) (A : Nat → Nat) (σ : SC) (sz : Nat) (a1 : Int32) {r0 : Int32} (h : f_X4_costTo σ a1 = some r0) : CT l yX4_costTo cX4_costTo 2 (some .int) rmX4_costTo G sz [.ref (A 20), .int a1] (wC G A σ) (QI G (va_A (wC G A σ) sz) r0 (wC G A σ)) := by
  unfold f_X4_costTo at h
  refine CI.intro (lv := [(0, .ref (A 20)), (1, .int a1)]) (by decide) (Nat.le_of_ble_eq_true rfl) rfl ?_
  intro p e s m args below meth c Q B S hret H locs ls hW hl
  have hx := S.1
  have hb := S.2.1
  refine lv_aload_n hx hb dX4_costTo_0 rfl (lv_at hl 0 rfl) ?_
  refine gC_X4_reach S hW lk_X4_49 dX4_costTo_1 ?_
  refine lv_iload_n hx hb dX4_costTo_4 rfl (lv_at hl 1 rfl) ?_
  refine back_i (rest := []) hW (run_V S hW (ct_X6_hasNumber l G A σ _ a1 rfl) mi_X6_hasNumber lk_X4_53 (eC_17 G A σ) rfl rfl rfl hl (Nat.le_of_ble_eq_true rfl) dX4_costTo_5 ⟨Nat.le_of_ble_eq_true rfl, Nat.le_of_ble_eq_true rfl⟩ rfl rfl) (fun H locs hW => ?_)
  refine bz_eq (tgt := 24) hx hb h dX4_costTo_8 (by decide) (fun _ h => ?_) (fun _ h => ?_)
  · refine lv_iconst (v := (-1)) hx hb dX4_costTo_24 (by decide) ?_
    exact hret H locs _ ls _ (Option.some.inj h) rfl hW dX4_costTo_25
  · refine lv_aload_n hx hb dX4_costTo_11 rfl (lv_at hl 0 rfl) ?_
    refine gC_X4_weights S hW lk_X4_9 dX4_costTo_12 ?_
    refine lv_iload_n hx hb dX4_costTo_15 rfl (lv_at hl 1 rfl) ?_
    refine aC_21 S hW h dX4_costTo_16 (fun v1 _ h => ?_)
    refine lv_sipush (v := 1000) hx hb dX4_costTo_17 (by decide) ?_
    refine lv_idiv hx hb dX4_costTo_20 (by decide) ?_
    refine lv_goto (tgt := 25) hx hb dX4_costTo_21 (by decide) ?_
    exact hret H locs _ ls _ (Option.some.inj h) rfl hW dX4_costTo_25
def rmX4_stepAt : Room := { frames := 0, cells := 0, slots := 0, locals := 0 }
def f_X4_stepAt (σ : SC) (a1 : Int32) : Option Int32 := if (gi σ 20) = 0 then some (-1) else if a1 < 0 then some (-1) else if (gi σ 21) ≤ a1 then some (-1) else ld (ga σ 15) 300 a1 (fun v1 => some v1)
theorem mi_X4_stepAt : MI yX4_stepAt cX4_stepAt 2 (some .int) 1 := ⟨im_X4_stepAt, se_X4_stepAt, in_X4, co_X4_stepAt, by decide, by decide, by decide +kernel⟩
set_option maxRecDepth 100000 in
set_option maxHeartbeats 4000000 in
theorem ct_X4_stepAt (l : Launch) (G : EN) (A : Nat → Nat) (σ : SC) (sz : Nat) (a1 : Int32) {r0 : Int32} (h : f_X4_stepAt σ a1 = some r0) : CT l yX4_stepAt cX4_stepAt 2 (some .int) rmX4_stepAt G sz [.ref (A 20), .int a1] (wC G A σ) (QI G (va_A (wC G A σ) sz) r0 (wC G A σ)) := by
  unfold f_X4_stepAt at h
  refine CI.intro (lv := [(0, .ref (A 20)), (1, .int a1)]) (by decide) (Nat.le_of_ble_eq_true rfl) rfl ?_
  intro p e s m args below meth c Q B S hret H locs ls hW hl
  have hx := S.1
  have hb := S.2.1
  refine lv_aload_n hx hb dX4_stepAt_0 rfl (lv_at hl 0 rfl) ?_
  refine gC_X4_found S hW lk_X4_36 dX4_stepAt_1 ?_
  refine bz_eq (tgt := 28) hx hb h dX4_stepAt_4 (by decide) (fun _ h => ?_) (fun _ h => ?_)
  · refine lv_iconst (v := (-1)) hx hb dX4_stepAt_28 (by decide) ?_
    exact hret H locs _ ls _ (Option.some.inj h) rfl hW dX4_stepAt_29
  · refine lv_iload_n hx hb dX4_stepAt_7 rfl (lv_at hl 1 rfl) ?_
    refine bz_lt (tgt := 28) hx hb h dX4_stepAt_8 (by decide) (fun _ h => ?_) (fun _ h => ?_)
    · refine lv_iconst (v := (-1)) hx hb dX4_stepAt_28 (by decide) ?_
      exact hret H locs _ ls _ (Option.some.inj h) rfl hW dX4_stepAt_29
    · refine lv_iload_n hx hb dX4_stepAt_11 rfl (lv_at hl 1 rfl) ?_
      refine lv_aload_n hx hb dX4_stepAt_12 rfl (lv_at hl 0 rfl) ?_
      refine gC_X4_planLength S hW lk_X4_39 dX4_stepAt_13 ?_
      refine bc_ge (tgt := 28) hx hb h dX4_stepAt_16 (by decide) (fun _ h => ?_) (fun _ h => ?_)
      · refine lv_iconst (v := (-1)) hx hb dX4_stepAt_28 (by decide) ?_
        exact hret H locs _ ls _ (Option.some.inj h) rfl hW dX4_stepAt_29
      · refine lv_aload_n hx hb dX4_stepAt_19 rfl (lv_at hl 0 rfl) ?_
        refine gC_X4_plan S hW lk_X4_22 dX4_stepAt_20 ?_
        refine lv_iload_n hx hb dX4_stepAt_23 rfl (lv_at hl 1 rfl) ?_
        refine aC_24 S hW h dX4_stepAt_24 (fun v1 _ h => ?_)
        refine lv_goto (tgt := 29) hx hb dX4_stepAt_25 (by decide) ?_
        exact hret H locs _ ls _ (Option.some.inj h) rfl hW dX4_stepAt_29
def rmX4_bringLightest : Room := { frames := 0, cells := 0, slots := 0, locals := 0 }
def LX4_bringLightest_6 (σ : SC) (K : Int32 → Option SC) : Nat → Int32 → Int32 → Option SC
  | 0, _, _ => none
  | k + 1, y2, y3 => if (gi σ 17) ≤ y3 then K y2 else ld (ga σ 13) 300 y3 (fun v2 => ld (ga σ 12) 300 v2 (fun v3 => ld (ga σ 13) 300 y2 (fun v4 => ld (ga σ 12) 300 v4 (fun v5 => if v5 ≤ v3 then lt (y3 + 1) (fun v6 => LX4_bringLightest_6 σ K k y2 v6) else lt (y3 + 1) (fun v7 => LX4_bringLightest_6 σ K k y3 v7)))))
def f_X4_bringLightest (n : Nat) (σ : SC) (a1 : Int32) : Option SC := lt (a1 + 1) (fun v1 => LX4_bringLightest_6 σ (fun w8 => ld (ga σ 13) 300 a1 (fun v9 => ld (ga σ 13) 300 w8 (fun v10 => ck 300 a1 (lt (sa σ 13 (upd (ga σ 13) a1.toNatClampNeg v10)) (fun σ11 => ck 300 w8 (lt (sa σ11 13 (upd (ga σ11 13) w8.toNatClampNeg v9)) (fun σ12 => some σ12))))))) n a1 v1)
theorem mi_X4_bringLightest : MI yX4_bringLightest cX4_bringLightest 4 none 1 := ⟨im_X4_bringLightest, se_X4_bringLightest, in_X4, co_X4_bringLightest, by decide, by decide, by decide +kernel⟩
set_option maxRecDepth 100000 in
set_option maxHeartbeats 4000000 in
theorem ct_X4_bringLightest (l : Launch) (n : Nat) (G : EN) (A : Nat → Nat) (σ : SC) (sz : Nat) (a1 : Int32) {σ0 : SC} (h : f_X4_bringLightest n σ a1 = some σ0) : CT l yX4_bringLightest cX4_bringLightest 4 none rmX4_bringLightest G sz [.ref (A 20), .int a1] (wC G A σ) (QV G (va_A (wC G A σ) sz) (wC G A σ0)) := by
  unfold f_X4_bringLightest at h
  refine CV.intro (lv := [(0, .ref (A 20)), (1, .int a1)]) (by decide) (Nat.le_of_ble_eq_true rfl) rfl ?_
  intro p e s m args below meth c Q B S hret H locs ls hW hl
  have hx := S.1
  have hb := S.2.1
  refine lv_iload_n hx hb dX4_bringLightest_0 rfl (lv_at hl 1 rfl) ?_
  refine lv_istore_n (lv' := [(2, .int a1), (0, .ref (A 20)), (1, .int a1)]) hx hb dX4_bringLightest_1 rfl hl (by decide) rfl (fun ls hl => ?_)
  refine lv_iload_n hx hb dX4_bringLightest_2 rfl (lv_at hl 2 rfl) ?_
  refine lv_iconst (v := 1) hx hb dX4_bringLightest_3 (by decide) ?_
  refine lv_iadd hx hb dX4_bringLightest_4 ?_
  refine nm_i h (fun v1 h => ?_)
  refine lv_istore_n (lv' := [(3, .int v1), (2, .int a1), (0, .ref (A 20)), (1, .int a1)]) hx hb dX4_bringLightest_5 rfl hl (by decide) rfl (fun ls hl => ?_)
  have hL6 : ∀ (y1 : Int32) (σ : SC) (K : Int32 → Option SC), (∀ (z2 : Int32) (H : Heap) (locs : List Loc) (ls : Array Slot), WS G B s (wC G A σ) H locs → lv_has ls 4 [(0, .ref (A 20)), (1, .int y1), (2, .int z2)] → K z2 = some σ0 → W p l e rmX4_bringLightest s m args below meth c H locs 0 0 Q (F0 m 47 ls [])) → ∀ (k : Nat)  (y2 : Int32) (y3 : Int32)  (H : Heap) (locs : List Loc) (ls : Array Slot), WS G B s (wC G A σ) H locs → lv_has ls 4 [(0, .ref (A 20)), (1, .int y1), (2, .int y2), (3, .int y3)] → LX4_bringLightest_6 σ K k y2 y3 = some σ0 → W p l e rmX4_bringLightest s m args below meth c H locs 0 0 Q (F0 m 6 ls []) := by
    intro y1 σ K hK k
    induction k with
    | zero => intro y2 y3 H locs ls hW hl h; rw [LX4_bringLightest_6] at h; cases h
    | succ k ih =>
      intro y2 y3 H locs ls hW hl h
      rw [LX4_bringLightest_6] at h
      refine lv_iload_n hx hb dX4_bringLightest_6 rfl (lv_at hl 3 rfl) ?_
      refine lv_aload_n hx hb dX4_bringLightest_7 rfl (lv_at hl 0 rfl) ?_
      refine gC_X4_foundCount S hW lk_X4_25 dX4_bringLightest_8 ?_
      refine bc_ge (tgt := 47) hx hb h dX4_bringLightest_11 (by decide) (fun _ h => ?_) (fun _ h => ?_)
      · exact hK y2 _ _ _ hW (lv_sub hl [0, 1, 2] rfl) h
      · refine lv_aload_n hx hb dX4_bringLightest_14 rfl (lv_at hl 0 rfl) ?_
        refine gC_X4_weights S hW lk_X4_9 dX4_bringLightest_15 ?_
        refine lv_aload_n hx hb dX4_bringLightest_18 rfl (lv_at hl 0 rfl) ?_
        refine gC_X4_order S hW lk_X4_15 dX4_bringLightest_19 ?_
        refine lv_iload_n hx hb dX4_bringLightest_22 rfl (lv_at hl 3 rfl) ?_
        refine aC_22 S hW h dX4_bringLightest_23 (fun v2 _ h => ?_)
        refine aC_21 S hW h dX4_bringLightest_24 (fun v3 _ h => ?_)
        refine lv_aload_n hx hb dX4_bringLightest_25 rfl (lv_at hl 0 rfl) ?_
        refine gC_X4_weights S hW lk_X4_9 dX4_bringLightest_26 ?_
        refine lv_aload_n hx hb dX4_bringLightest_29 rfl (lv_at hl 0 rfl) ?_
        refine gC_X4_order S hW lk_X4_15 dX4_bringLightest_30 ?_
        refine lv_iload_n hx hb dX4_bringLightest_33 rfl (lv_at hl 2 rfl) ?_
        refine aC_22 S hW h dX4_bringLightest_34 (fun v4 _ h => ?_)
        refine aC_21 S hW h dX4_bringLightest_35 (fun v5 _ h => ?_)
        refine bc_ge (tgt := 41) hx hb h dX4_bringLightest_36 (by decide) (fun _ h => ?_) (fun _ h => ?_)
        · refine w_iinc (lv' := [(0, .ref (A 20)), (1, .int y1), (2, .int y2)]) hx hb dX4_bringLightest_41 hl (k := 3) rfl (by decide) (by decide) rfl h (fun v6 ls hl h => ?_)
          refine lv_goto (tgt := 6) hx hb dX4_bringLightest_44 (by decide) ?_
          exact ih y2 v6 _ _ _ hW (lv_sub hl [1, 2, 3, 0] rfl) h
        · refine lv_iload_n hx hb dX4_bringLightest_39 rfl (lv_at hl 3 rfl) ?_
          refine lv_istore_n (lv' := [(2, .int y3), (0, .ref (A 20)), (1, .int y1), (3, .int y3)]) hx hb dX4_bringLightest_40 rfl hl (by decide) rfl (fun ls hl => ?_)
          refine w_iinc (lv' := [(2, .int y3), (0, .ref (A 20)), (1, .int y1)]) hx hb dX4_bringLightest_41 hl (k := 3) rfl (by decide) (by decide) rfl h (fun v7 ls hl h => ?_)
          refine lv_goto (tgt := 6) hx hb dX4_bringLightest_44 (by decide) ?_
          exact ih y3 v7 _ _ _ hW (lv_sub hl [2, 3, 1, 0] rfl) h
  refine hL6 a1 σ _ (fun w8 H locs ls hW hl h => ?_) n a1 v1 _ _ _ hW (lv_sub hl [2, 3, 1, 0] rfl) h
  refine lv_aload_n hx hb dX4_bringLightest_47 rfl (lv_at hl 0 rfl) ?_
  refine gC_X4_order S hW lk_X4_15 dX4_bringLightest_48 ?_
  refine lv_iload_n hx hb dX4_bringLightest_51 rfl (lv_at hl 1 rfl) ?_
  refine aC_22 S hW h dX4_bringLightest_52 (fun v9 _ h => ?_)
  refine lv_istore_n (lv' := [(3, .int v9), (0, .ref (A 20)), (1, .int a1), (2, .int w8)]) hx hb dX4_bringLightest_53 rfl hl (by decide) rfl (fun ls hl => ?_)
  refine lv_aload_n hx hb dX4_bringLightest_54 rfl (lv_at hl 1 rfl) ?_
  refine gC_X4_order S hW lk_X4_15 dX4_bringLightest_55 ?_
  refine lv_iload_n hx hb dX4_bringLightest_58 rfl (lv_at hl 2 rfl) ?_
  refine lv_aload_n hx hb dX4_bringLightest_59 rfl (lv_at hl 1 rfl) ?_
  refine gC_X4_order S hW lk_X4_15 dX4_bringLightest_60 ?_
  refine lv_iload_n hx hb dX4_bringLightest_63 rfl (lv_at hl 3 rfl) ?_
  refine aC_22 S hW h dX4_bringLightest_64 (fun v10 _ h => ?_)
  refine sC_22 S hW h dX4_bringLightest_65 (fun σ11 H locs eσ11 _ h hW => ?_)
  have h := lt_at eσ11 h
  refine lv_aload_n hx hb dX4_bringLightest_66 rfl (lv_at hl 1 rfl) ?_
  refine gC_X4_order S hW lk_X4_15 dX4_bringLightest_67 ?_
  refine lv_iload_n hx hb dX4_bringLightest_70 rfl (lv_at hl 3 rfl) ?_
  refine lv_iload_n hx hb dX4_bringLightest_71 rfl (lv_at hl 0 rfl) ?_
  refine sC_22 S hW h dX4_bringLightest_72 (fun σ12 H locs eσ12 _ h hW => ?_)
  have h := lt_at eσ12 h
  exact ret_vs (wf := wC G A) hret h hW dX4_bringLightest_73
def rmX4_comesTo : Room := { frames := 2, cells := 0, slots := 0, locals := 45 }
def f_X4_comesTo (n : Nat) (σ : SC) (a1 : Int32) (a2 : Int32) : Option Int32 := ld (ga σ 10) 300 a1 (fun v1 => bd (f_X0_isAllowed σ v1 a2) (fun v3 => if v3 = 0 then some (-1) else bd (f_X0_after σ v1 a2) (fun v5 => bd (f_X6_find n σ v5) (fun v7 => some v7))))
theorem mi_X4_comesTo : MI yX4_comesTo cX4_comesTo 4 (some .int) 2 := ⟨im_X4_comesTo, se_X4_comesTo, in_X4, co_X4_comesTo, by decide, by decide, by decide +kernel⟩
set_option maxRecDepth 100000 in
set_option maxHeartbeats 4000000 in
theorem ct_X4_comesTo (l : Launch) (n : Nat) (G : EN) (A : Nat → Nat) (σ : SC) (sz : Nat) (a1 : Int32) (a2 : Int32) {r0 : Int32} (h : f_X4_comesTo n σ a1 a2 = some r0) : CT l yX4_comesTo cX4_comesTo 4 (some .int) rmX4_comesTo G sz [.ref (A 20), .int a1, .int a2] (wC G A σ) (QI G (va_A (wC G A σ) sz) r0 (wC G A σ)) := by
  unfold f_X4_comesTo at h
  refine CI.intro (lv := [(0, .ref (A 20)), (1, .int a1), (2, .int a2)]) (by decide) (Nat.le_of_ble_eq_true rfl) rfl ?_
  intro p e s m args below meth c Q B S hret H locs ls hW hl
  have hx := S.1
  have hb := S.2.1
  refine lv_aload_n hx hb dX4_comesTo_0 rfl (lv_at hl 0 rfl) ?_
  refine gC_X4_reach S hW lk_X4_49 dX4_comesTo_1 ?_
  refine gC_X6_states S hW lk_X4_84 dX4_comesTo_4 ?_
  refine lv_iload_n hx hb dX4_comesTo_7 rfl (lv_at hl 1 rfl) ?_
  refine aC_18 S hW h dX4_comesTo_8 (fun v1 _ h => ?_)
  refine lv_istore_n (lv' := [(3, .int v1), (0, .ref (A 20)), (1, .int a1), (2, .int a2)]) hx hb dX4_comesTo_9 rfl hl (by decide) rfl (fun ls hl => ?_)
  refine lv_aload_n hx hb dX4_comesTo_10 rfl (lv_at hl 1 rfl) ?_
  refine gC_X4_table S hW lk_X4_45 dX4_comesTo_11 ?_
  refine lv_iload_n hx hb dX4_comesTo_14 rfl (lv_at hl 0 rfl) ?_
  refine lv_iload_n hx hb dX4_comesTo_15 rfl (lv_at hl 3 rfl) ?_
  obtain ⟨v3, h2, h⟩ := bd_o h
  refine back_i (rest := []) hW (run_V S hW (ct_X0_isAllowed l G A σ _ v1 a2 h2) mi_X0_isAllowed lk_X4_87 (eC_1 G A σ) rfl rfl rfl hl (Nat.le_of_ble_eq_true rfl) dX4_comesTo_16 ⟨Nat.le_of_ble_eq_true rfl, Nat.le_of_ble_eq_true rfl⟩ rfl rfl) (fun H locs hW => ?_)
  refine bz_eq (tgt := 41) hx hb h dX4_comesTo_19 (by decide) (fun _ h => ?_) (fun _ h => ?_)
  · refine lv_iconst (v := (-1)) hx hb dX4_comesTo_41 (by decide) ?_
    exact hret H locs _ ls _ (Option.some.inj h) rfl hW dX4_comesTo_42
  · refine lv_aload_n hx hb dX4_comesTo_22 rfl (lv_at hl 1 rfl) ?_
    refine gC_X4_reach S hW lk_X4_49 dX4_comesTo_23 ?_
    refine lv_aload_n hx hb dX4_comesTo_26 rfl (lv_at hl 1 rfl) ?_
    refine gC_X4_table S hW lk_X4_45 dX4_comesTo_27 ?_
    refine lv_iload_n hx hb dX4_comesTo_30 rfl (lv_at hl 0 rfl) ?_
    refine lv_iload_n hx hb dX4_comesTo_31 rfl (lv_at hl 3 rfl) ?_
    obtain ⟨v5, h4, h⟩ := bd_o h
    refine back_i (rest := [.ref (A 17)]) hW (run_V S hW (ct_X0_after l G A σ _ v1 a2 h4) mi_X0_after lk_X4_91 (eC_1 G A σ) rfl rfl rfl hl (Nat.le_of_ble_eq_true rfl) dX4_comesTo_32 ⟨Nat.le_of_ble_eq_true rfl, Nat.le_of_ble_eq_true rfl⟩ rfl rfl) (fun H locs hW => ?_)
    obtain ⟨v7, h6, h⟩ := bd_o h
    refine back_i (rest := []) hW (run_V S hW (ct_X6_find l n G A σ _ v5 h6) mi_X6_find lk_X4_94 (eC_17 G A σ) rfl rfl rfl hl (Nat.le_of_ble_eq_true rfl) dX4_comesTo_35 ⟨Nat.le_of_ble_eq_true rfl, Nat.le_of_ble_eq_true rfl⟩ rfl rfl) (fun H locs hW => ?_)
    refine lv_goto (tgt := 42) hx hb dX4_comesTo_38 (by decide) ?_
    exact hret H locs _ ls _ (Option.some.inj h) rfl hW dX4_comesTo_42
def rmX4_weightBy : Room := { frames := 0, cells := 0, slots := 0, locals := 0 }
def f_X4_weightBy (σ : SC) (a1 : Int32) (a2 : Int32) : Option Int32 := ld (ga σ 12) 300 a1 (fun v1 => ld (ga σ 3) 24 a2 (fun v2 => some ((v1 + (v2 * 1000)) + 1)))
theorem mi_X4_weightBy : MI yX4_weightBy cX4_weightBy 3 (some .int) 2 := ⟨im_X4_weightBy, se_X4_weightBy, in_X4, co_X4_weightBy, by decide, by decide, by decide +kernel⟩
set_option maxRecDepth 100000 in
set_option maxHeartbeats 4000000 in
theorem ct_X4_weightBy (l : Launch) (G : EN) (A : Nat → Nat) (σ : SC) (sz : Nat) (a1 : Int32) (a2 : Int32) {r0 : Int32} (h : f_X4_weightBy σ a1 a2 = some r0) : CT l yX4_weightBy cX4_weightBy 3 (some .int) rmX4_weightBy G sz [.ref (A 20), .int a1, .int a2] (wC G A σ) (QI G (va_A (wC G A σ) sz) r0 (wC G A σ)) := by
  unfold f_X4_weightBy at h
  refine CI.intro (lv := [(0, .ref (A 20)), (1, .int a1), (2, .int a2)]) (by decide) (Nat.le_of_ble_eq_true rfl) rfl ?_
  intro p e s m args below meth c Q B S hret H locs ls hW hl
  have hx := S.1
  have hb := S.2.1
  refine lv_aload_n hx hb dX4_weightBy_0 rfl (lv_at hl 0 rfl) ?_
  refine gC_X4_weights S hW lk_X4_9 dX4_weightBy_1 ?_
  refine lv_iload_n hx hb dX4_weightBy_4 rfl (lv_at hl 1 rfl) ?_
  refine aC_21 S hW h dX4_weightBy_5 (fun v1 _ h => ?_)
  refine lv_aload_n hx hb dX4_weightBy_6 rfl (lv_at hl 0 rfl) ?_
  refine gC_X4_table S hW lk_X4_45 dX4_weightBy_7 ?_
  refine gC_X0_costs S hW lk_X4_98 dX4_weightBy_10 ?_
  refine lv_iload_n hx hb dX4_weightBy_13 rfl (lv_at hl 2 rfl) ?_
  refine aC_5 S hW h dX4_weightBy_14 (fun v2 _ h => ?_)
  refine lv_sipush (v := 1000) hx hb dX4_weightBy_15 (by decide) ?_
  refine lv_imul hx hb dX4_weightBy_18 ?_
  refine lv_iadd hx hb dX4_weightBy_19 ?_
  refine lv_iconst (v := 1) hx hb dX4_weightBy_20 (by decide) ?_
  refine lv_iadd hx hb dX4_weightBy_21 ?_
  exact hret H locs _ ls _ (Option.some.inj h) rfl hW dX4_weightBy_22
def rmX4_lightenFrom : Room := { frames := 3, cells := 0, slots := 0, locals := 68 }
def LX4_lightenFrom_2 (n : Nat) (y1 : Int32) (K : SC → Option SC) : Nat → SC → Int32 → Option SC
  | 0, _, _ => none
  | k + 1, σ, y2 => if (gi σ 6) ≤ y2 then K σ else bd (f_X4_comesTo n σ y1 y2) (fun v2 => if v2 = (-1) then lt (y2 + 1) (fun v15 => LX4_lightenFrom_2 n y1 K k σ v15) else bd (f_X4_weightBy σ y1 y2) (fun v4 => ld (ga σ 12) 300 v2 (fun v5 => jn (fun (_ : Unit) => ld (ga σ 12) 300 v2 (fun v7 => if v7 ≤ v4 then lt (y2 + 1) (fun v8 => LX4_lightenFrom_2 n y1 K k σ v8) else ck 300 v2 (lt (sa σ 12 (upd (ga σ 12) v2.toNatClampNeg v4)) (fun σ9 => lt (y2 + 1) (fun v10 => LX4_lightenFrom_2 n y1 K k σ9 v10))))) (fun J6 => if v5 = (-1) then if 300 ≤ (gi σ 17) then J6 () else ck 300 v2 (lt (sa σ 12 (upd (ga σ 12) v2.toNatClampNeg v4)) (fun σ11 => ck 300 (gi σ11 17) (lt (sa σ11 13 (upd (ga σ11 13) (gi σ11 17).toNatClampNeg v2)) (fun σ12 => lt (si σ12 17 ((gi σ12 17) + 1)) (fun σ13 => lt (y2 + 1) (fun v14 => LX4_lightenFrom_2 n y1 K k σ13 v14)))))) else J6 ()))))
def f_X4_lightenFrom (n : Nat) (σ : SC) (a1 : Int32) : Option SC := LX4_lightenFrom_2 n a1 (fun σ16 => some σ16) n σ 0
theorem mi_X4_lightenFrom : MI yX4_lightenFrom cX4_lightenFrom 5 none 1 := ⟨im_X4_lightenFrom, se_X4_lightenFrom, in_X4, co_X4_lightenFrom, by decide, by decide, by decide +kernel⟩
set_option maxRecDepth 100000 in
set_option maxHeartbeats 4000000 in
theorem ct_X4_lightenFrom (l : Launch) (n : Nat) (G : EN) (A : Nat → Nat) (σ : SC) (sz : Nat) (a1 : Int32) {σ0 : SC} (h : f_X4_lightenFrom n σ a1 = some σ0) : CT l yX4_lightenFrom cX4_lightenFrom 5 none rmX4_lightenFrom G sz [.ref (A 20), .int a1] (wC G A σ) (QV G (va_A (wC G A σ) sz) (wC G A σ0)) := by
  unfold f_X4_lightenFrom at h
  refine CV.intro (lv := [(0, .ref (A 20)), (1, .int a1)]) (by decide) (Nat.le_of_ble_eq_true rfl) rfl ?_
  intro p e s m args below meth c Q B S hret H locs ls hW hl
  have hx := S.1
  have hb := S.2.1
  refine lv_iconst (v := 0) hx hb dX4_lightenFrom_0 (by decide) ?_
  refine lv_istore_n (lv' := [(2, .int 0), (0, .ref (A 20)), (1, .int a1)]) hx hb dX4_lightenFrom_1 rfl hl (by decide) rfl (fun ls hl => ?_)
  have hL2 : ∀ (y1 : Int32) (K : SC → Option SC), (∀ (σ : SC) (H : Heap) (locs : List Loc) (ls : Array Slot), WS G B s (wC G A σ) H locs → lv_has ls 5 [] → K σ = some σ0 → W p l e rmX4_lightenFrom s m args below meth c H locs 0 0 Q (F0 m 112 ls [])) → ∀ (k : Nat) (σ : SC) (y2 : Int32)  (H : Heap) (locs : List Loc) (ls : Array Slot), WS G B s (wC G A σ) H locs → lv_has ls 5 [(0, .ref (A 20)), (1, .int y1), (2, .int y2)] → LX4_lightenFrom_2 n y1 K k σ y2 = some σ0 → W p l e rmX4_lightenFrom s m args below meth c H locs 0 0 Q (F0 m 2 ls []) := by
    intro y1 K hK k
    induction k with
    | zero => intro σ y2 H locs ls hW hl h; rw [LX4_lightenFrom_2] at h; cases h
    | succ k ih =>
      intro σ y2 H locs ls hW hl h
      rw [LX4_lightenFrom_2] at h
      refine lv_iload_n hx hb dX4_lightenFrom_2 rfl (lv_at hl 2 rfl) ?_
      refine lv_aload_n hx hb dX4_lightenFrom_3 rfl (lv_at hl 0 rfl) ?_
      refine gC_X4_table S hW lk_X4_45 dX4_lightenFrom_4 ?_
      refine gC_X0_count S hW lk_X4_72 dX4_lightenFrom_7 ?_
      refine bc_ge (tgt := 112) hx hb h dX4_lightenFrom_10 (by decide) (fun _ h => ?_) (fun _ h => ?_)
      · exact hK σ _ _ _ hW (lv_sub hl [] rfl) h
      · refine lv_aload_n hx hb dX4_lightenFrom_13 rfl (lv_at hl 0 rfl) ?_
        refine lv_iload_n hx hb dX4_lightenFrom_14 rfl (lv_at hl 1 rfl) ?_
        refine lv_iload_n hx hb dX4_lightenFrom_15 rfl (lv_at hl 2 rfl) ?_
        obtain ⟨v2, h1, h⟩ := bd_o h
        refine back_i (rest := []) hW (run_V S hW (ct_X4_comesTo l n G A σ _ y1 y2 h1) mi_X4_comesTo lk_X4_77 (eC_20 G A σ) rfl rfl rfl hl (Nat.le_of_ble_eq_true rfl) dX4_lightenFrom_16 ⟨Nat.le_of_ble_eq_true rfl, Nat.le_of_ble_eq_true rfl⟩ rfl rfl) (fun H locs hW => ?_)
        refine lv_istore_n (lv' := [(3, .int v2), (0, .ref (A 20)), (1, .int y1), (2, .int y2)]) hx hb dX4_lightenFrom_19 rfl hl (by decide) rfl (fun ls hl => ?_)
        refine lv_iload_n hx hb dX4_lightenFrom_20 rfl (lv_at hl 0 rfl) ?_
        refine lv_iconst (v := (-1)) hx hb dX4_lightenFrom_21 (by decide) ?_
        refine bc_ne (tgt := 28) hx hb h dX4_lightenFrom_22 (by decide) (fun _ h => ?_) (fun _ h => ?_)
        · refine lv_goto (tgt := 106) hx hb dX4_lightenFrom_25 (by decide) ?_
          refine w_iinc (lv' := [(3, .int v2), (0, .ref (A 20)), (1, .int y1)]) hx hb dX4_lightenFrom_106 hl (k := 3) rfl (by decide) (by decide) rfl h (fun v15 ls hl h => ?_)
          refine lv_goto (tgt := 2) hx hb dX4_lightenFrom_109 (by decide) ?_
          exact ih σ v15 _ _ _ hW (lv_sub hl [2, 3, 0] rfl) h
        · refine lv_aload_n hx hb dX4_lightenFrom_28 rfl (lv_at hl 1 rfl) ?_
          refine lv_iload_n hx hb dX4_lightenFrom_29 rfl (lv_at hl 2 rfl) ?_
          refine lv_iload_n hx hb dX4_lightenFrom_30 rfl (lv_at hl 3 rfl) ?_
          obtain ⟨v4, h3, h⟩ := bd_o h
          refine back_i (rest := []) hW (run_V S hW (ct_X4_weightBy l G A σ _ y1 y2 h3) mi_X4_weightBy lk_X4_81 (eC_20 G A σ) rfl rfl rfl hl (Nat.le_of_ble_eq_true rfl) dX4_lightenFrom_31 ⟨Nat.le_of_ble_eq_true rfl, Nat.le_of_ble_eq_true rfl⟩ rfl rfl) (fun H locs hW => ?_)
          refine lv_istore (lv' := [(4, .int v4), (3, .int v2), (0, .ref (A 20)), (1, .int y1), (2, .int y2)]) hx hb dX4_lightenFrom_34 hl (by decide) rfl (fun ls hl => ?_)
          refine lv_aload_n hx hb dX4_lightenFrom_36 rfl (lv_at hl 2 rfl) ?_
          refine gC_X4_weights S hW lk_X4_9 dX4_lightenFrom_37 ?_
          refine lv_iload_n hx hb dX4_lightenFrom_40 rfl (lv_at hl 1 rfl) ?_
          refine aC_21 S hW h dX4_lightenFrom_41 (fun v5 _ h => ?_)
          refine lv_iconst (v := (-1)) hx hb dX4_lightenFrom_42 (by decide) ?_
          obtain ⟨J6, eJ6, h⟩ := jn_o h
          have hJ6 : ∀   (H : Heap) (locs : List Loc) (ls : Array Slot), WS G B s (wC G A σ) H locs → lv_has ls 5 [(0, .ref (A 20)), (1, .int y1), (2, .int y2), (3, .int v2), (4, .int v4)] → J6 () = some σ0 → W p l e rmX4_lightenFrom s m args below meth c H locs 0 0 Q (F0 m 87 ls []) := by
            subst eJ6
            intro  H locs ls hW hl h
            refine lv_iload hx hb dX4_lightenFrom_87 (lv_at hl 4 rfl) ?_
            refine lv_aload_n hx hb dX4_lightenFrom_89 rfl (lv_at hl 0 rfl) ?_
            refine gC_X4_weights S hW lk_X4_9 dX4_lightenFrom_90 ?_
            refine lv_iload_n hx hb dX4_lightenFrom_93 rfl (lv_at hl 3 rfl) ?_
            refine aC_21 S hW h dX4_lightenFrom_94 (fun v7 _ h => ?_)
            refine bc_ge (tgt := 106) hx hb h dX4_lightenFrom_95 (by decide) (fun _ h => ?_) (fun _ h => ?_)
            · refine w_iinc (lv' := [(0, .ref (A 20)), (1, .int y1), (3, .int v2), (4, .int v4)]) hx hb dX4_lightenFrom_106 hl (k := 2) rfl (by decide) (by decide) rfl h (fun v8 ls hl h => ?_)
              refine lv_goto (tgt := 2) hx hb dX4_lightenFrom_109 (by decide) ?_
              exact ih σ v8 _ _ _ hW (lv_sub hl [1, 2, 0] rfl) h
            · refine lv_aload_n hx hb dX4_lightenFrom_98 rfl (lv_at hl 0 rfl) ?_
              refine gC_X4_weights S hW lk_X4_9 dX4_lightenFrom_99 ?_
              refine lv_iload_n hx hb dX4_lightenFrom_102 rfl (lv_at hl 3 rfl) ?_
              refine lv_iload hx hb dX4_lightenFrom_103 (lv_at hl 4 rfl) ?_
              refine sC_21 S hW h dX4_lightenFrom_105 (fun σ9 H locs eσ9 _ h hW => ?_)
              have h := lt_at eσ9 h
              refine w_iinc (lv' := [(0, .ref (A 20)), (1, .int y1), (3, .int v2), (4, .int v4)]) hx hb dX4_lightenFrom_106 hl (k := 2) rfl (by decide) (by decide) rfl h (fun v10 ls hl h => ?_)
              refine lv_goto (tgt := 2) hx hb dX4_lightenFrom_109 (by decide) ?_
              exact ih σ9 v10 _ _ _ hW (lv_sub hl [1, 2, 0] rfl) h
          clear eJ6
          refine bc_ne (tgt := 87) hx hb h dX4_lightenFrom_43 (by decide) (fun _ h => ?_) (fun _ h => ?_)
          · refine lv_aload_n hx hb dX4_lightenFrom_46 rfl (lv_at hl 2 rfl) ?_
            refine gC_X4_foundCount S hW lk_X4_25 dX4_lightenFrom_47 ?_
            refine lv_sipush (v := 300) hx hb dX4_lightenFrom_50 (by decide) ?_
            refine bc_ge (tgt := 87) hx hb h dX4_lightenFrom_53 (by decide) (fun _ h => ?_) (fun _ h => ?_)
            · exact hJ6  _ _ _ hW (lv_sub hl [2, 3, 4, 1, 0] rfl) h
            · refine lv_aload_n hx hb dX4_lightenFrom_56 rfl (lv_at hl 2 rfl) ?_
              refine gC_X4_weights S hW lk_X4_9 dX4_lightenFrom_57 ?_
              refine lv_iload_n hx hb dX4_lightenFrom_60 rfl (lv_at hl 1 rfl) ?_
              refine lv_iload hx hb dX4_lightenFrom_61 (lv_at hl 0 rfl) ?_
              refine sC_21 S hW h dX4_lightenFrom_63 (fun σ11 H locs eσ11 _ h hW => ?_)
              have h := lt_at eσ11 h
              refine lv_aload_n hx hb dX4_lightenFrom_64 rfl (lv_at hl 2 rfl) ?_
              refine gC_X4_order S hW lk_X4_15 dX4_lightenFrom_65 ?_
              refine lv_aload_n hx hb dX4_lightenFrom_68 rfl (lv_at hl 2 rfl) ?_
              refine gC_X4_foundCount S hW lk_X4_25 dX4_lightenFrom_69 ?_
              refine lv_iload_n hx hb dX4_lightenFrom_72 rfl (lv_at hl 1 rfl) ?_
              refine sC_22 S hW h dX4_lightenFrom_73 (fun σ12 H locs eσ12 _ h hW => ?_)
              have h := lt_at eσ12 h
              refine lv_aload_n hx hb dX4_lightenFrom_74 rfl (lv_at hl 2 rfl) ?_
              refine lv_dup hx hb dX4_lightenFrom_75 rfl ?_
              refine gC_X4_foundCount S hW lk_X4_25 dX4_lightenFrom_76 ?_
              refine lv_iconst (v := 1) hx hb dX4_lightenFrom_79 (by decide) ?_
              refine lv_iadd hx hb dX4_lightenFrom_80 ?_
              refine pC_X4_foundCount S hW lk_X4_25 dX4_lightenFrom_81 (fun σ13 H locs eσ13 hW => ?_)
              have h := lt_at eσ13 h
              refine lv_goto (tgt := 106) hx hb dX4_lightenFrom_84 (by decide) ?_
              refine w_iinc (lv' := [(4, .int v4), (3, .int v2), (0, .ref (A 20)), (1, .int y1)]) hx hb dX4_lightenFrom_106 hl (k := 4) rfl (by decide) (by decide) rfl h (fun v14 ls hl h => ?_)
              refine lv_goto (tgt := 2) hx hb dX4_lightenFrom_109 (by decide) ?_
              exact ih σ13 v14 _ _ _ hW (lv_sub hl [3, 4, 0] rfl) h
          · exact hJ6  _ _ _ hW (lv_sub hl [2, 3, 4, 1, 0] rfl) h
  refine hL2 a1 _ (fun σ16 H locs ls hW hl h => ?_) n σ 0 _ _ _ hW (lv_sub hl [1, 2, 0] rfl) h
  exact ret_vs (wf := wC G A) hret h hW dX4_lightenFrom_112
def rmX4_measure : Room := { frames := 12, cells := 0, slots := 0, locals := 400 }
def LX4_measure_42 (n : Nat) (K : SC → Option SC) : Nat → SC → Int32 → Option SC
  | 0, _, _ => none
  | k + 1, σ, y1 => if 300 ≤ y1 then K σ else if (gi σ 17) ≤ y1 then K σ else bd (f_X4_bringLightest n σ y1) (fun σ7 => ld (ga σ7 13) 300 y1 (fun v8 => bd (f_X4_lightenFrom n σ7 v8) (fun σ10 => lt (y1 + 1) (fun v11 => LX4_measure_42 n K k σ10 v11))))
def f_X4_measure (n : Nat) (σ : SC) : Option SC := if (gi σ 18) = 0 then lt (si σ 18 1) (fun σ1 => lt (sa σ1 12 (fun _ => (-1))) (fun σ2 => ck 300 0 (lt (sa σ2 12 (upd (ga σ2 12) (0 : Int32).toNatClampNeg 0)) (fun σ3 => ck 300 0 (lt (sa σ3 13 (upd (ga σ3 13) (0 : Int32).toNatClampNeg 0)) (fun σ4 => lt (si σ4 17 1) (fun σ5 => LX4_measure_42 n (fun σ12 => some σ12) n σ5 0))))))) else some σ
theorem mi_X4_measure : MI yX4_measure cX4_measure 2 none 0 := ⟨im_X4_measure, se_X4_measure, in_X4, co_X4_measure, by decide, by decide, by decide +kernel⟩
set_option maxRecDepth 100000 in
set_option maxHeartbeats 4000000 in
theorem ct_X4_measure (l : Launch) (n : Nat) (G : EN) (A : Nat → Nat) (σ : SC) (sz : Nat) {σ0 : SC} (h : f_X4_measure n σ = some σ0) : CT l yX4_measure cX4_measure 2 none rmX4_measure G sz [.ref (A 20)] (wC G A σ) (QV G (va_A (wC G A σ) sz) (wC G A σ0)) := by
  unfold f_X4_measure at h
  refine CV.intro (lv := [(0, .ref (A 20))]) (by decide) (Nat.le_of_ble_eq_true rfl) rfl ?_
  intro p e s m args below meth c Q B S hret H locs ls hW hl
  have hx := S.1
  have hb := S.2.1
  refine lv_aload_n hx hb dX4_measure_0 rfl (lv_at hl 0 rfl) ?_
  refine gC_X4_measured S hW lk_X4_29 dX4_measure_1 ?_
  refine bz_eq (tgt := 8) hx hb h dX4_measure_4 (by decide) (fun _ h => ?_) (fun _ h => ?_)
  · refine lv_aload_n hx hb dX4_measure_8 rfl (lv_at hl 0 rfl) ?_
    refine lv_iconst (v := 1) hx hb dX4_measure_9 (by decide) ?_
    refine pC_X4_measured (Or.inr rfl) S hW lk_X4_29 dX4_measure_10 (fun σ1 H locs eσ1 hW => ?_)
    have h := lt_at eσ1 h
    refine lv_aload_n hx hb dX4_measure_13 rfl (lv_at hl 0 rfl) ?_
    refine gC_X4_weights S hW lk_X4_9 dX4_measure_14 ?_
    refine lv_iconst (v := (-1)) hx hb dX4_measure_17 (by decide) ?_
    refine back_v (rest := []) hW (run_S S hW (ct_fillI l G _ (eC_21 G A σ1) (uCa_12 G A σ1 _) (by decide)) ms_J7_fill_53178 lk_X4_59 rfl rfl hl (Nat.le_of_ble_eq_true rfl) dX4_measure_18 ⟨Nat.le_of_ble_eq_true rfl, Nat.le_of_ble_eq_true rfl⟩ rfl rfl) (fun H locs hW => ?_)
    obtain ⟨σ2, eσ2, h⟩ := lt_o h
    rw [← eσ2] at hW
    refine lv_aload_n hx hb dX4_measure_21 rfl (lv_at hl 0 rfl) ?_
    refine gC_X4_weights S hW lk_X4_9 dX4_measure_22 ?_
    refine lv_iconst (v := 0) hx hb dX4_measure_25 (by decide) ?_
    refine lv_iconst (v := 0) hx hb dX4_measure_26 (by decide) ?_
    refine sC_21 S hW h dX4_measure_27 (fun σ3 H locs eσ3 _ h hW => ?_)
    have h := lt_at eσ3 h
    refine lv_aload_n hx hb dX4_measure_28 rfl (lv_at hl 0 rfl) ?_
    refine gC_X4_order S hW lk_X4_15 dX4_measure_29 ?_
    refine lv_iconst (v := 0) hx hb dX4_measure_32 (by decide) ?_
    refine lv_iconst (v := 0) hx hb dX4_measure_33 (by decide) ?_
    refine sC_22 S hW h dX4_measure_34 (fun σ4 H locs eσ4 _ h hW => ?_)
    have h := lt_at eσ4 h
    refine lv_aload_n hx hb dX4_measure_35 rfl (lv_at hl 0 rfl) ?_
    refine lv_iconst (v := 1) hx hb dX4_measure_36 (by decide) ?_
    refine pC_X4_foundCount S hW lk_X4_25 dX4_measure_37 (fun σ5 H locs eσ5 hW => ?_)
    have h := lt_at eσ5 h
    refine lv_iconst (v := 0) hx hb dX4_measure_40 (by decide) ?_
    refine lv_istore_n (lv' := [(1, .int 0), (0, .ref (A 20))]) hx hb dX4_measure_41 rfl hl (by decide) rfl (fun ls hl => ?_)
    have hL42 : ∀  (K : SC → Option SC), (∀ (σ : SC) (H : Heap) (locs : List Loc) (ls : Array Slot), WS G B s (wC G A σ) H locs → lv_has ls 2 [] → K σ = some σ0 → W p l e rmX4_measure s m args below meth c H locs 0 0 Q (F0 m 78 ls [])) → ∀ (k : Nat) (σ : SC) (y1 : Int32)  (H : Heap) (locs : List Loc) (ls : Array Slot), WS G B s (wC G A σ) H locs → lv_has ls 2 [(0, .ref (A 20)), (1, .int y1)] → LX4_measure_42 n K k σ y1 = some σ0 → W p l e rmX4_measure s m args below meth c H locs 0 0 Q (F0 m 42 ls []) := by
      intro  K hK k
      induction k with
      | zero => intro σ y1 H locs ls hW hl h; rw [LX4_measure_42] at h; cases h
      | succ k ih =>
        intro σ y1 H locs ls hW hl h
        rw [LX4_measure_42] at h
        refine lv_iload_n hx hb dX4_measure_42 rfl (lv_at hl 1 rfl) ?_
        refine lv_sipush (v := 300) hx hb dX4_measure_43 (by decide) ?_
        refine bc_ge (tgt := 78) hx hb h dX4_measure_46 (by decide) (fun _ h => ?_) (fun _ h => ?_)
        · exact hK σ _ _ _ hW (lv_sub hl [] rfl) h
        · refine lv_iload_n hx hb dX4_measure_49 rfl (lv_at hl 1 rfl) ?_
          refine lv_aload_n hx hb dX4_measure_50 rfl (lv_at hl 0 rfl) ?_
          refine gC_X4_foundCount S hW lk_X4_25 dX4_measure_51 ?_
          refine bc_ge (tgt := 78) hx hb h dX4_measure_54 (by decide) (fun _ h => ?_) (fun _ h => ?_)
          · exact hK σ _ _ _ hW (lv_sub hl [] rfl) h
          · refine lv_aload_n hx hb dX4_measure_57 rfl (lv_at hl 0 rfl) ?_
            refine lv_iload_n hx hb dX4_measure_58 rfl (lv_at hl 1 rfl) ?_
            obtain ⟨σ7, h6, h⟩ := bd_o h
            refine back_v (rest := []) hW (run_V S hW (ct_X4_bringLightest l n G A σ _ y1 h6) mi_X4_bringLightest lk_X4_65 (eC_20 G A σ) rfl rfl rfl hl (Nat.le_of_ble_eq_true rfl) dX4_measure_59 ⟨Nat.le_of_ble_eq_true rfl, Nat.le_of_ble_eq_true rfl⟩ rfl rfl) (fun H locs hW => ?_)
            refine lv_aload_n hx hb dX4_measure_62 rfl (lv_at hl 0 rfl) ?_
            refine lv_aload_n hx hb dX4_measure_63 rfl (lv_at hl 0 rfl) ?_
            refine gC_X4_order S hW lk_X4_15 dX4_measure_64 ?_
            refine lv_iload_n hx hb dX4_measure_67 rfl (lv_at hl 1 rfl) ?_
            refine aC_22 S hW h dX4_measure_68 (fun v8 _ h => ?_)
            obtain ⟨σ10, h9, h⟩ := bd_o h
            refine back_v (rest := []) hW (run_V S hW (ct_X4_lightenFrom l n G A σ7 _ v8 h9) mi_X4_lightenFrom lk_X4_69 (eC_20 G A σ7) rfl rfl rfl hl (Nat.le_of_ble_eq_true rfl) dX4_measure_69 ⟨Nat.le_of_ble_eq_true rfl, Nat.le_of_ble_eq_true rfl⟩ rfl rfl) (fun H locs hW => ?_)
            refine w_iinc (lv' := [(0, .ref (A 20))]) hx hb dX4_measure_72 hl (k := 1) rfl (by decide) (by decide) rfl h (fun v11 ls hl h => ?_)
            refine lv_goto (tgt := 42) hx hb dX4_measure_75 (by decide) ?_
            exact ih σ10 v11 _ _ _ hW (lv_sub hl [1, 0] rfl) h
    refine hL42  _ (fun σ12 H locs ls hW hl h => ?_) n σ5 0 _ _ _ hW (lv_sub hl [1, 0] rfl) h
    exact ret_vs (wf := wC G A) hret h hW dX4_measure_78
  · exact ret_vs (wf := wC G A) hret h hW dX4_measure_7
def rmX4_leastWithGoal : Room := { frames := 0, cells := 0, slots := 0, locals := 0 }
def LX4_leastWithGoal_2 (σ : SC) (y1 : Int32) (K : Unit → Option Int32) : Nat → Int32 → Option Int32
  | 0, _ => none
  | k + 1, y2 => if (gi σ 17) ≤ y2 then K () else ld (ga σ 13) 300 y2 (fun v1 => ld (ga σ 10) 300 v1 (fun v2 => if (y1 &&& (v2 ^^^ (-1))) = 0 then ld (ga σ 13) 300 y2 (fun v4 => ld (ga σ 12) 300 v4 (fun v5 => some v5)) else lt (y2 + 1) (fun v3 => LX4_leastWithGoal_2 σ y1 K k v3)))
def f_X4_leastWithGoal (n : Nat) (σ : SC) (a1 : Int32) : Option Int32 := LX4_leastWithGoal_2 σ a1 (fun _ => some (-1)) n 0
theorem mi_X4_leastWithGoal : MI yX4_leastWithGoal cX4_leastWithGoal 3 (some .int) 1 := ⟨im_X4_leastWithGoal, se_X4_leastWithGoal, in_X4, co_X4_leastWithGoal, by decide, by decide, by decide +kernel⟩
set_option maxRecDepth 100000 in
set_option maxHeartbeats 4000000 in
theorem ct_X4_leastWithGoal (l : Launch) (n : Nat) (G : EN) (A : Nat → Nat) (σ : SC) (sz : Nat) (a1 : Int32) {r0 : Int32} (h : f_X4_leastWithGoal n σ a1 = some r0) : CT l yX4_leastWithGoal cX4_leastWithGoal 3 (some .int) rmX4_leastWithGoal G sz [.ref (A 20), .int a1] (wC G A σ) (QI G (va_A (wC G A σ) sz) r0 (wC G A σ)) := by
  unfold f_X4_leastWithGoal at h
  refine CI.intro (lv := [(0, .ref (A 20)), (1, .int a1)]) (by decide) (Nat.le_of_ble_eq_true rfl) rfl ?_
  intro p e s m args below meth c Q B S hret H locs ls hW hl
  have hx := S.1
  have hb := S.2.1
  refine lv_iconst (v := 0) hx hb dX4_leastWithGoal_0 (by decide) ?_
  refine lv_istore_n (lv' := [(2, .int 0), (0, .ref (A 20)), (1, .int a1)]) hx hb dX4_leastWithGoal_1 rfl hl (by decide) rfl (fun ls hl => ?_)
  have hL2 : ∀ (y1 : Int32) (K : Unit → Option Int32), (∀  (H : Heap) (locs : List Loc) (ls : Array Slot), WS G B s (wC G A σ) H locs → lv_has ls 3 [] → K () = some r0 → W p l e rmX4_leastWithGoal s m args below meth c H locs 0 0 Q (F0 m 49 ls [])) → ∀ (k : Nat)  (y2 : Int32)  (H : Heap) (locs : List Loc) (ls : Array Slot), WS G B s (wC G A σ) H locs → lv_has ls 3 [(0, .ref (A 20)), (1, .int y1), (2, .int y2)] → LX4_leastWithGoal_2 σ y1 K k y2 = some r0 → W p l e rmX4_leastWithGoal s m args below meth c H locs 0 0 Q (F0 m 2 ls []) := by
    intro y1 K hK k
    induction k with
    | zero => intro y2 H locs ls hW hl h; rw [LX4_leastWithGoal_2] at h; cases h
    | succ k ih =>
      intro y2 H locs ls hW hl h
      rw [LX4_leastWithGoal_2] at h
      refine lv_iload_n hx hb dX4_leastWithGoal_2 rfl (lv_at hl 2 rfl) ?_
      refine lv_aload_n hx hb dX4_leastWithGoal_3 rfl (lv_at hl 0 rfl) ?_
      refine gC_X4_foundCount S hW lk_X4_25 dX4_leastWithGoal_4 ?_
      refine bc_ge (tgt := 49) hx hb h dX4_leastWithGoal_7 (by decide) (fun _ h => ?_) (fun _ h => ?_)
      · exact hK  _ _ _ hW (lv_sub hl [] rfl) h
      · refine lv_iload_n hx hb dX4_leastWithGoal_10 rfl (lv_at hl 1 rfl) ?_
        refine lv_aload_n hx hb dX4_leastWithGoal_11 rfl (lv_at hl 0 rfl) ?_
        refine gC_X4_reach S hW lk_X4_49 dX4_leastWithGoal_12 ?_
        refine gC_X6_states S hW lk_X4_84 dX4_leastWithGoal_15 ?_
        refine lv_aload_n hx hb dX4_leastWithGoal_18 rfl (lv_at hl 0 rfl) ?_
        refine gC_X4_order S hW lk_X4_15 dX4_leastWithGoal_19 ?_
        refine lv_iload_n hx hb dX4_leastWithGoal_22 rfl (lv_at hl 2 rfl) ?_
        refine aC_22 S hW h dX4_leastWithGoal_23 (fun v1 _ h => ?_)
        refine aC_18 S hW h dX4_leastWithGoal_24 (fun v2 _ h => ?_)
        refine lv_iconst (v := (-1)) hx hb dX4_leastWithGoal_25 (by decide) ?_
        refine lv_ixor hx hb dX4_leastWithGoal_26 ?_
        refine lv_iand hx hb dX4_leastWithGoal_27 ?_
        refine bz_ne (tgt := 43) hx hb h dX4_leastWithGoal_28 (by decide) (fun _ h => ?_) (fun _ h => ?_)
        · refine lv_aload_n hx hb dX4_leastWithGoal_31 rfl (lv_at hl 0 rfl) ?_
          refine gC_X4_weights S hW lk_X4_9 dX4_leastWithGoal_32 ?_
          refine lv_aload_n hx hb dX4_leastWithGoal_35 rfl (lv_at hl 0 rfl) ?_
          refine gC_X4_order S hW lk_X4_15 dX4_leastWithGoal_36 ?_
          refine lv_iload_n hx hb dX4_leastWithGoal_39 rfl (lv_at hl 2 rfl) ?_
          refine aC_22 S hW h dX4_leastWithGoal_40 (fun v4 _ h => ?_)
          refine aC_21 S hW h dX4_leastWithGoal_41 (fun v5 _ h => ?_)
          exact hret H locs _ ls _ (Option.some.inj h) rfl hW dX4_leastWithGoal_42
        · refine w_iinc (lv' := [(0, .ref (A 20)), (1, .int y1)]) hx hb dX4_leastWithGoal_43 hl (k := 2) rfl (by decide) (by decide) rfl h (fun v3 ls hl h => ?_)
          refine lv_goto (tgt := 2) hx hb dX4_leastWithGoal_46 (by decide) ?_
          exact ih v3 _ _ _ hW (lv_sub hl [1, 2, 0] rfl) h
  refine hL2 a1 _ (fun  H locs ls hW hl h => ?_) n 0 _ _ _ hW (lv_sub hl [1, 2, 0] rfl) h
  refine lv_iconst (v := (-1)) hx hb dX4_leastWithGoal_49 (by decide) ?_
  exact hret H locs _ ls _ (Option.some.inj h) rfl hW dX4_leastWithGoal_50
def rmX4_leastOnward : Room := { frames := 3, cells := 0, slots := 0, locals := 68 }
def LX4_leastOnward_2 (n : Nat) (σ : SC) (y1 : Int32) (K : Unit → Option Int32) : Nat → Int32 → Option Int32
  | 0, _ => none
  | k + 1, y2 => if (gi σ 6) ≤ y2 then K () else bd (f_X4_comesTo n σ y1 y2) (fun v2 => if v2 = (-1) then lt (y2 + 1) (fun v3 => LX4_leastOnward_2 n σ y1 K k v3) else ld (ga σ 12) 300 v2 (fun v4 => bd (f_X4_weightBy σ y1 y2) (fun v6 => if v4 = v6 then ld (ga σ 14) 300 v2 (fun v8 => if v8 = 0 then lt (y2 + 1) (fun v9 => LX4_leastOnward_2 n σ y1 K k v9) else some y2) else lt (y2 + 1) (fun v7 => LX4_leastOnward_2 n σ y1 K k v7))))
def f_X4_leastOnward (n : Nat) (σ : SC) (a1 : Int32) : Option Int32 := LX4_leastOnward_2 n σ a1 (fun _ => some (-1)) n 0
theorem mi_X4_leastOnward : MI yX4_leastOnward cX4_leastOnward 4 (some .int) 1 := ⟨im_X4_leastOnward, se_X4_leastOnward, in_X4, co_X4_leastOnward, by decide, by decide, by decide +kernel⟩
set_option maxRecDepth 100000 in
set_option maxHeartbeats 4000000 in
theorem ct_X4_leastOnward (l : Launch) (n : Nat) (G : EN) (A : Nat → Nat) (σ : SC) (sz : Nat) (a1 : Int32) {r0 : Int32} (h : f_X4_leastOnward n σ a1 = some r0) : CT l yX4_leastOnward cX4_leastOnward 4 (some .int) rmX4_leastOnward G sz [.ref (A 20), .int a1] (wC G A σ) (QI G (va_A (wC G A σ) sz) r0 (wC G A σ)) := by
  unfold f_X4_leastOnward at h
  refine CI.intro (lv := [(0, .ref (A 20)), (1, .int a1)]) (by decide) (Nat.le_of_ble_eq_true rfl) rfl ?_
  intro p e s m args below meth c Q B S hret H locs ls hW hl
  have hx := S.1
  have hb := S.2.1
  refine lv_iconst (v := 0) hx hb dX4_leastOnward_0 (by decide) ?_
  refine lv_istore_n (lv' := [(2, .int 0), (0, .ref (A 20)), (1, .int a1)]) hx hb dX4_leastOnward_1 rfl hl (by decide) rfl (fun ls hl => ?_)
  have hL2 : ∀ (y1 : Int32) (K : Unit → Option Int32), (∀  (H : Heap) (locs : List Loc) (ls : Array Slot), WS G B s (wC G A σ) H locs → lv_has ls 4 [] → K () = some r0 → W p l e rmX4_leastOnward s m args below meth c H locs 0 0 Q (F0 m 57 ls [])) → ∀ (k : Nat)  (y2 : Int32)  (H : Heap) (locs : List Loc) (ls : Array Slot), WS G B s (wC G A σ) H locs → lv_has ls 4 [(0, .ref (A 20)), (1, .int y1), (2, .int y2)] → LX4_leastOnward_2 n σ y1 K k y2 = some r0 → W p l e rmX4_leastOnward s m args below meth c H locs 0 0 Q (F0 m 2 ls []) := by
    intro y1 K hK k
    induction k with
    | zero => intro y2 H locs ls hW hl h; rw [LX4_leastOnward_2] at h; cases h
    | succ k ih =>
      intro y2 H locs ls hW hl h
      rw [LX4_leastOnward_2] at h
      refine lv_iload_n hx hb dX4_leastOnward_2 rfl (lv_at hl 2 rfl) ?_
      refine lv_aload_n hx hb dX4_leastOnward_3 rfl (lv_at hl 0 rfl) ?_
      refine gC_X4_table S hW lk_X4_45 dX4_leastOnward_4 ?_
      refine gC_X0_count S hW lk_X4_72 dX4_leastOnward_7 ?_
      refine bc_ge (tgt := 57) hx hb h dX4_leastOnward_10 (by decide) (fun _ h => ?_) (fun _ h => ?_)
      · exact hK  _ _ _ hW (lv_sub hl [] rfl) h
      · refine lv_aload_n hx hb dX4_leastOnward_13 rfl (lv_at hl 0 rfl) ?_
        refine lv_iload_n hx hb dX4_leastOnward_14 rfl (lv_at hl 1 rfl) ?_
        refine lv_iload_n hx hb dX4_leastOnward_15 rfl (lv_at hl 2 rfl) ?_
        obtain ⟨v2, h1, h⟩ := bd_o h
        refine back_i (rest := []) hW (run_V S hW (ct_X4_comesTo l n G A σ _ y1 y2 h1) mi_X4_comesTo lk_X4_77 (eC_20 G A σ) rfl rfl rfl hl (Nat.le_of_ble_eq_true rfl) dX4_leastOnward_16 ⟨Nat.le_of_ble_eq_true rfl, Nat.le_of_ble_eq_true rfl⟩ rfl rfl) (fun H locs hW => ?_)
        refine lv_istore_n (lv' := [(3, .int v2), (0, .ref (A 20)), (1, .int y1), (2, .int y2)]) hx hb dX4_leastOnward_19 rfl hl (by decide) rfl (fun ls hl => ?_)
        refine lv_iload_n hx hb dX4_leastOnward_20 rfl (lv_at hl 0 rfl) ?_
        refine lv_iconst (v := (-1)) hx hb dX4_leastOnward_21 (by decide) ?_
        refine bc_eq (tgt := 51) hx hb h dX4_leastOnward_22 (by decide) (fun _ h => ?_) (fun _ h => ?_)
        · refine w_iinc (lv' := [(3, .int v2), (0, .ref (A 20)), (1, .int y1)]) hx hb dX4_leastOnward_51 hl (k := 3) rfl (by decide) (by decide) rfl h (fun v3 ls hl h => ?_)
          refine lv_goto (tgt := 2) hx hb dX4_leastOnward_54 (by decide) ?_
          exact ih v3 _ _ _ hW (lv_sub hl [2, 3, 0] rfl) h
        · refine lv_aload_n hx hb dX4_leastOnward_25 rfl (lv_at hl 1 rfl) ?_
          refine gC_X4_weights S hW lk_X4_9 dX4_leastOnward_26 ?_
          refine lv_iload_n hx hb dX4_leastOnward_29 rfl (lv_at hl 0 rfl) ?_
          refine aC_21 S hW h dX4_leastOnward_30 (fun v4 _ h => ?_)
          refine lv_aload_n hx hb dX4_leastOnward_31 rfl (lv_at hl 1 rfl) ?_
          refine lv_iload_n hx hb dX4_leastOnward_32 rfl (lv_at hl 2 rfl) ?_
          refine lv_iload_n hx hb dX4_leastOnward_33 rfl (lv_at hl 3 rfl) ?_
          obtain ⟨v6, h5, h⟩ := bd_o h
          refine back_i (rest := [.int v4]) hW (run_V S hW (ct_X4_weightBy l G A σ _ y1 y2 h5) mi_X4_weightBy lk_X4_81 (eC_20 G A σ) rfl rfl rfl hl (Nat.le_of_ble_eq_true rfl) dX4_leastOnward_34 ⟨Nat.le_of_ble_eq_true rfl, Nat.le_of_ble_eq_true rfl⟩ rfl rfl) (fun H locs hW => ?_)
          refine bc_ne (tgt := 51) hx hb h dX4_leastOnward_37 (by decide) (fun _ h => ?_) (fun _ h => ?_)
          · refine lv_aload_n hx hb dX4_leastOnward_40 rfl (lv_at hl 1 rfl) ?_
            refine gC_X4_onBest S hW lk_X4_18 dX4_leastOnward_41 ?_
            refine lv_iload_n hx hb dX4_leastOnward_44 rfl (lv_at hl 0 rfl) ?_
            refine aC_23 S hW h dX4_leastOnward_45 (fun v8 _ h => ?_)
            refine bz_eq (tgt := 51) hx hb h dX4_leastOnward_46 (by decide) (fun _ h => ?_) (fun _ h => ?_)
            · refine w_iinc (lv' := [(3, .int v2), (0, .ref (A 20)), (1, .int y1)]) hx hb dX4_leastOnward_51 hl (k := 3) rfl (by decide) (by decide) rfl h (fun v9 ls hl h => ?_)
              refine lv_goto (tgt := 2) hx hb dX4_leastOnward_54 (by decide) ?_
              exact ih v9 _ _ _ hW (lv_sub hl [2, 3, 0] rfl) h
            · refine lv_iload_n hx hb dX4_leastOnward_49 rfl (lv_at hl 3 rfl) ?_
              exact hret H locs _ ls _ (Option.some.inj h) rfl hW dX4_leastOnward_50
          · refine w_iinc (lv' := [(3, .int v2), (0, .ref (A 20)), (1, .int y1)]) hx hb dX4_leastOnward_51 hl (k := 3) rfl (by decide) (by decide) rfl h (fun v7 ls hl h => ?_)
            refine lv_goto (tgt := 2) hx hb dX4_leastOnward_54 (by decide) ?_
            exact ih v7 _ _ _ hW (lv_sub hl [2, 3, 0] rfl) h
  refine hL2 a1 _ (fun  H locs ls hW hl h => ?_) n 0 _ _ _ hW (lv_sub hl [1, 2, 0] rfl) h
  refine lv_iconst (v := (-1)) hx hb dX4_leastOnward_57 (by decide) ?_
  exact hret H locs _ ls _ (Option.some.inj h) rfl hW dX4_leastOnward_58
def rmX4_markBest : Room := { frames := 4, cells := 0, slots := 0, locals := 91 }
def LX4_markBest_7 (n : Nat) (y1 : Int32) (y2 : Int32) (K : SC → Option SC) : Nat → SC → Int32 → Option SC
  | 0, _, _ => none
  | k + 1, σ, y3 => if y3 < 0 then K σ else ld (ga σ 13) 300 y3 (fun v2 => ld (ga σ 12) 300 v2 (fun v3 => jn (fun (u5 : Int32) => if u5 = 0 then ld (ga σ 12) 300 v2 (fun v8 => if y2 ≤ v8 then ck 300 v2 (lt (sa σ 14 (upd (ga σ 14) v2.toNatClampNeg (vp_nar .boolean 0))) (fun σ9 => lt (y3 + (-1)) (fun v10 => LX4_markBest_7 n y1 y2 K k σ9 v10))) else bd (f_X4_leastOnward n σ v2) (fun v12 => if v12 = (-1) then ck 300 v2 (lt (sa σ 14 (upd (ga σ 14) v2.toNatClampNeg (vp_nar .boolean 0))) (fun σ13 => lt (y3 + (-1)) (fun v14 => LX4_markBest_7 n y1 y2 K k σ13 v14))) else ck 300 v2 (lt (sa σ 14 (upd (ga σ 14) v2.toNatClampNeg (vp_nar .boolean 1))) (fun σ15 => lt (y3 + (-1)) (fun v16 => LX4_markBest_7 n y1 y2 K k σ15 v16))))) else ck 300 v2 (lt (sa σ 14 (upd (ga σ 14) v2.toNatClampNeg (vp_nar .boolean 1))) (fun σ6 => lt (y3 + (-1)) (fun v7 => LX4_markBest_7 n y1 y2 K k σ6 v7)))) (fun J4 => if v3 = y2 then ld (ga σ 10) 300 v2 (fun v17 => if (y1 &&& (v17 ^^^ (-1))) = 0 then J4 1 else J4 0) else J4 0)))
def f_X4_markBest (n : Nat) (σ : SC) (a1 : Int32) (a2 : Int32) : Option SC := lt ((gi σ 17) - 1) (fun v1 => LX4_markBest_7 n a1 a2 (fun σ18 => some σ18) n σ v1)
theorem mi_X4_markBest : MI yX4_markBest cX4_markBest 6 none 2 := ⟨im_X4_markBest, se_X4_markBest, in_X4, co_X4_markBest, by decide, by decide, by decide +kernel⟩
set_option maxRecDepth 100000 in
set_option maxHeartbeats 4000000 in
theorem ct_X4_markBest (l : Launch) (n : Nat) (G : EN) (A : Nat → Nat) (σ : SC) (sz : Nat) (a1 : Int32) (a2 : Int32) {σ0 : SC} (h : f_X4_markBest n σ a1 a2 = some σ0) : CT l yX4_markBest cX4_markBest 6 none rmX4_markBest G sz [.ref (A 20), .int a1, .int a2] (wC G A σ) (QV G (va_A (wC G A σ) sz) (wC G A σ0)) := by
  unfold f_X4_markBest at h
  refine CV.intro (lv := [(0, .ref (A 20)), (1, .int a1), (2, .int a2)]) (by decide) (Nat.le_of_ble_eq_true rfl) rfl ?_
  intro p e s m args below meth c Q B S hret H locs ls hW hl
  have hx := S.1
  have hb := S.2.1
  refine lv_aload_n hx hb dX4_markBest_0 rfl (lv_at hl 0 rfl) ?_
  refine gC_X4_foundCount S hW lk_X4_25 dX4_markBest_1 ?_
  refine lv_iconst (v := 1) hx hb dX4_markBest_4 (by decide) ?_
  refine lv_isub hx hb dX4_markBest_5 ?_
  refine nm_i h (fun v1 h => ?_)
  refine lv_istore_n (lv' := [(3, .int v1), (0, .ref (A 20)), (1, .int a1), (2, .int a2)]) hx hb dX4_markBest_6 rfl hl (by decide) rfl (fun ls hl => ?_)
  have hL7 : ∀ (y1 : Int32) (y2 : Int32) (K : SC → Option SC), (∀ (σ : SC) (H : Heap) (locs : List Loc) (ls : Array Slot), WS G B s (wC G A σ) H locs → lv_has ls 6 [] → K σ = some σ0 → W p l e rmX4_markBest s m args below meth c H locs 0 0 Q (F0 m 98 ls [])) → ∀ (k : Nat) (σ : SC) (y3 : Int32)  (H : Heap) (locs : List Loc) (ls : Array Slot), WS G B s (wC G A σ) H locs → lv_has ls 6 [(0, .ref (A 20)), (1, .int y1), (2, .int y2), (3, .int y3)] → LX4_markBest_7 n y1 y2 K k σ y3 = some σ0 → W p l e rmX4_markBest s m args below meth c H locs 0 0 Q (F0 m 7 ls []) := by
    intro y1 y2 K hK k
    induction k with
    | zero => intro σ y3 H locs ls hW hl h; rw [LX4_markBest_7] at h; cases h
    | succ k ih =>
      intro σ y3 H locs ls hW hl h
      rw [LX4_markBest_7] at h
      refine lv_iload_n hx hb dX4_markBest_7 rfl (lv_at hl 3 rfl) ?_
      refine bz_lt (tgt := 98) hx hb h dX4_markBest_8 (by decide) (fun _ h => ?_) (fun _ h => ?_)
      · exact hK σ _ _ _ hW (lv_sub hl [] rfl) h
      · refine lv_aload_n hx hb dX4_markBest_11 rfl (lv_at hl 0 rfl) ?_
        refine gC_X4_order S hW lk_X4_15 dX4_markBest_12 ?_
        refine lv_iload_n hx hb dX4_markBest_15 rfl (lv_at hl 3 rfl) ?_
        refine aC_22 S hW h dX4_markBest_16 (fun v2 _ h => ?_)
        refine lv_istore (lv' := [(4, .int v2), (0, .ref (A 20)), (1, .int y1), (2, .int y2), (3, .int y3)]) hx hb dX4_markBest_17 hl (by decide) rfl (fun ls hl => ?_)
        refine lv_aload_n hx hb dX4_markBest_19 rfl (lv_at hl 1 rfl) ?_
        refine gC_X4_weights S hW lk_X4_9 dX4_markBest_20 ?_
        refine lv_iload hx hb dX4_markBest_23 (lv_at hl 0 rfl) ?_
        refine aC_21 S hW h dX4_markBest_25 (fun v3 _ h => ?_)
        refine lv_iload_n hx hb dX4_markBest_26 rfl (lv_at hl 3 rfl) ?_
        obtain ⟨J4, eJ4, h⟩ := jn_o h
        have hJ4 : ∀ (u5 : Int32)  (H : Heap) (locs : List Loc) (ls : Array Slot), WS G B s (wC G A σ) H locs → lv_has ls 6 [(0, .ref (A 20)), (1, .int y1), (2, .int y2), (3, .int y3), (4, .int v2)] → J4 u5 = some σ0 → W p l e rmX4_markBest s m args below meth c H locs 0 0 Q (F0 m 52 ls [.int u5]) := by
          subst eJ4
          intro u5 H locs ls hW hl h
          refine lv_istore (lv' := [(5, .int u5), (0, .ref (A 20)), (1, .int y1), (2, .int y2), (3, .int y3), (4, .int v2)]) hx hb dX4_markBest_52 hl (by decide) rfl (fun ls hl => ?_)
          refine lv_aload_n hx hb dX4_markBest_54 rfl (lv_at hl 1 rfl) ?_
          refine gC_X4_onBest S hW lk_X4_18 dX4_markBest_55 ?_
          refine lv_iload hx hb dX4_markBest_58 (lv_at hl 5 rfl) ?_
          refine lv_iload hx hb dX4_markBest_60 (lv_at hl 0 rfl) ?_
          refine bz_ne (tgt := 86) hx hb h dX4_markBest_62 (by decide) (fun _ h => ?_) (fun _ h => ?_)
          · refine lv_aload_n hx hb dX4_markBest_65 rfl (lv_at hl 1 rfl) ?_
            refine gC_X4_weights S hW lk_X4_9 dX4_markBest_66 ?_
            refine lv_iload hx hb dX4_markBest_69 (lv_at hl 5 rfl) ?_
            refine aC_21 S hW h dX4_markBest_71 (fun v8 _ h => ?_)
            refine lv_iload_n hx hb dX4_markBest_72 rfl (lv_at hl 3 rfl) ?_
            refine bc_ge (tgt := 90) hx hb h dX4_markBest_73 (by decide) (fun _ h => ?_) (fun _ h => ?_)
            · refine lv_iconst (v := 0) hx hb dX4_markBest_90 (by decide) ?_
              refine sC_23 S hW h dX4_markBest_91 (fun σ9 H locs eσ9 _ h hW => ?_)
              have h := lt_at eσ9 h
              refine w_iinc (lv' := [(5, .int u5), (0, .ref (A 20)), (1, .int y1), (2, .int y2), (4, .int v2)]) hx hb dX4_markBest_92 hl (k := 4) rfl (by decide) (by decide) rfl h (fun v10 ls hl h => ?_)
              refine lv_goto (tgt := 7) hx hb dX4_markBest_95 (by decide) ?_
              exact ih σ9 v10 _ _ _ hW (lv_sub hl [2, 3, 4, 0] rfl) h
            · refine lv_aload_n hx hb dX4_markBest_76 rfl (lv_at hl 1 rfl) ?_
              refine lv_iload hx hb dX4_markBest_77 (lv_at hl 5 rfl) ?_
              obtain ⟨v12, h11, h⟩ := bd_o h
              refine back_i (rest := [.int v2, .ref (A 23)]) hW (run_V S hW (ct_X4_leastOnward l n G A σ _ v2 h11) mi_X4_leastOnward lk_X4_111 (eC_20 G A σ) rfl rfl rfl hl (Nat.le_of_ble_eq_true rfl) dX4_markBest_79 ⟨Nat.le_of_ble_eq_true rfl, Nat.le_of_ble_eq_true rfl⟩ rfl rfl) (fun H locs hW => ?_)
              refine lv_iconst (v := (-1)) hx hb dX4_markBest_82 (by decide) ?_
              refine bc_eq (tgt := 90) hx hb h dX4_markBest_83 (by decide) (fun _ h => ?_) (fun _ h => ?_)
              · refine lv_iconst (v := 0) hx hb dX4_markBest_90 (by decide) ?_
                refine sC_23 S hW h dX4_markBest_91 (fun σ13 H locs eσ13 _ h hW => ?_)
                have h := lt_at eσ13 h
                refine w_iinc (lv' := [(5, .int u5), (0, .ref (A 20)), (1, .int y1), (2, .int y2), (4, .int v2)]) hx hb dX4_markBest_92 hl (k := 4) rfl (by decide) (by decide) rfl h (fun v14 ls hl h => ?_)
                refine lv_goto (tgt := 7) hx hb dX4_markBest_95 (by decide) ?_
                exact ih σ13 v14 _ _ _ hW (lv_sub hl [2, 3, 4, 0] rfl) h
              · refine lv_iconst (v := 1) hx hb dX4_markBest_86 (by decide) ?_
                refine lv_goto (tgt := 91) hx hb dX4_markBest_87 (by decide) ?_
                refine sC_23 S hW h dX4_markBest_91 (fun σ15 H locs eσ15 _ h hW => ?_)
                have h := lt_at eσ15 h
                refine w_iinc (lv' := [(5, .int u5), (0, .ref (A 20)), (1, .int y1), (2, .int y2), (4, .int v2)]) hx hb dX4_markBest_92 hl (k := 4) rfl (by decide) (by decide) rfl h (fun v16 ls hl h => ?_)
                refine lv_goto (tgt := 7) hx hb dX4_markBest_95 (by decide) ?_
                exact ih σ15 v16 _ _ _ hW (lv_sub hl [2, 3, 4, 0] rfl) h
          · refine lv_iconst (v := 1) hx hb dX4_markBest_86 (by decide) ?_
            refine lv_goto (tgt := 91) hx hb dX4_markBest_87 (by decide) ?_
            refine sC_23 S hW h dX4_markBest_91 (fun σ6 H locs eσ6 _ h hW => ?_)
            have h := lt_at eσ6 h
            refine w_iinc (lv' := [(5, .int u5), (0, .ref (A 20)), (1, .int y1), (2, .int y2), (4, .int v2)]) hx hb dX4_markBest_92 hl (k := 4) rfl (by decide) (by decide) rfl h (fun v7 ls hl h => ?_)
            refine lv_goto (tgt := 7) hx hb dX4_markBest_95 (by decide) ?_
            exact ih σ6 v7 _ _ _ hW (lv_sub hl [2, 3, 4, 0] rfl) h
        clear eJ4
        refine bc_ne (tgt := 51) hx hb h dX4_markBest_27 (by decide) (fun _ h => ?_) (fun _ h => ?_)
        · refine lv_iload_n hx hb dX4_markBest_30 rfl (lv_at hl 2 rfl) ?_
          refine lv_aload_n hx hb dX4_markBest_31 rfl (lv_at hl 1 rfl) ?_
          refine gC_X4_reach S hW lk_X4_49 dX4_markBest_32 ?_
          refine gC_X6_states S hW lk_X4_84 dX4_markBest_35 ?_
          refine lv_iload hx hb dX4_markBest_38 (lv_at hl 0 rfl) ?_
          refine aC_18 S hW h dX4_markBest_40 (fun v17 _ h => ?_)
          refine lv_iconst (v := (-1)) hx hb dX4_markBest_41 (by decide) ?_
          refine lv_ixor hx hb dX4_markBest_42 ?_
          refine lv_iand hx hb dX4_markBest_43 ?_
          refine bz_ne (tgt := 51) hx hb h dX4_markBest_44 (by decide) (fun _ h => ?_) (fun _ h => ?_)
          · refine lv_iconst (v := 1) hx hb dX4_markBest_47 (by decide) ?_
            refine lv_goto (tgt := 52) hx hb dX4_markBest_48 (by decide) ?_
            exact hJ4 1 _ _ _ hW (lv_sub hl [1, 2, 3, 4, 0] rfl) h
          · refine lv_iconst (v := 0) hx hb dX4_markBest_51 (by decide) ?_
            exact hJ4 0 _ _ _ hW (lv_sub hl [1, 2, 3, 4, 0] rfl) h
        · refine lv_iconst (v := 0) hx hb dX4_markBest_51 (by decide) ?_
          exact hJ4 0 _ _ _ hW (lv_sub hl [1, 2, 3, 4, 0] rfl) h
  refine hL7 a1 a2 _ (fun σ18 H locs ls hW hl h => ?_) n σ v1 _ _ _ hW (lv_sub hl [1, 2, 3, 0] rfl) h
  exact ret_vs (wf := wC G A) hret h hW dX4_markBest_98
def rmX4_choose : Room := { frames := 13, cells := 0, slots := 0, locals := 421 }
def LX4_choose_82 (n : Nat) (y3 : Int32) (K : SC → Option SC) : Nat → SC → Int32 → Int32 → Option SC
  | 0, _, _, _ => none
  | k + 1, σ, y4, y5 => if y3 ≤ y5 then K σ else if 300 ≤ y5 then K σ else if y4 = (-1) then K σ else bd (f_X4_leastOnward n σ y4) (fun v17 => if v17 = (-1) then K σ else ck 300 y5 (lt (sa σ 15 (upd (ga σ 15) y5.toNatClampNeg v17)) (fun σ18 => lt (si σ18 21 (y5 + 1)) (fun σ19 => bd (f_X4_comesTo n σ19 y4 v17) (fun v21 => lt (y5 + 1) (fun v22 => LX4_choose_82 n y3 K k σ19 v21 v22))))))
def f_X4_choose (n : Nat) (σ : SC) (a1 : Int32) : Option SC := if (gi σ 19) = 0 then lt (si σ 19 1) (fun σ1 => bd (f_X4_measure n σ1) (fun σ3 => bd (f_X4_leastWithGoal n σ3 a1) (fun v5 => jn (fun (u7 : Int32) => zb u7 (lt (si σ3 20 u7) (fun σ8 => lt (si σ8 21 0) (fun σ10 => lt (si σ10 22 0) (fun σ11 => if (gi σ11 20) = 0 then some σ11 else bd (f_X4_markBest n σ11 a1 v5) (fun σ13 => lt (si σ13 22 (v5 / 1000)) (fun σ14 => lt (v5 - v5 / 1000 * 1000) (fun v15 => LX4_choose_82 n v15 (fun σ23 => some σ23) n σ14 0 0)))))))) (fun J6 => if v5 = (-1) then J6 0 else J6 1)))) else some σ
theorem mi_X4_choose : MI yX4_choose cX4_choose 7 none 1 := ⟨im_X4_choose, se_X4_choose, in_X4, co_X4_choose, by decide, by decide, by decide +kernel⟩
set_option maxRecDepth 100000 in
set_option maxHeartbeats 4000000 in
theorem ct_X4_choose (l : Launch) (n : Nat) (G : EN) (A : Nat → Nat) (σ : SC) (sz : Nat) (a1 : Int32) {σ0 : SC} (h : f_X4_choose n σ a1 = some σ0) : CT l yX4_choose cX4_choose 7 none rmX4_choose G sz [.ref (A 20), .int a1] (wC G A σ) (QV G (va_A (wC G A σ) sz) (wC G A σ0)) := by
  unfold f_X4_choose at h
  refine CV.intro (lv := [(0, .ref (A 20)), (1, .int a1)]) (by decide) (Nat.le_of_ble_eq_true rfl) rfl ?_
  intro p e s m args below meth c Q B S hret H locs ls hW hl
  have hx := S.1
  have hb := S.2.1
  refine lv_aload_n hx hb dX4_choose_0 rfl (lv_at hl 0 rfl) ?_
  refine gC_X4_chosen S hW lk_X4_33 dX4_choose_1 ?_
  refine bz_eq (tgt := 8) hx hb h dX4_choose_4 (by decide) (fun _ h => ?_) (fun _ h => ?_)
  · refine lv_aload_n hx hb dX4_choose_8 rfl (lv_at hl 0 rfl) ?_
    refine lv_iconst (v := 1) hx hb dX4_choose_9 (by decide) ?_
    refine pC_X4_chosen (Or.inr rfl) S hW lk_X4_33 dX4_choose_10 (fun σ1 H locs eσ1 hW => ?_)
    have h := lt_at eσ1 h
    refine lv_aload_n hx hb dX4_choose_13 rfl (lv_at hl 0 rfl) ?_
    obtain ⟨σ3, h2, h⟩ := bd_o h
    refine back_v (rest := []) hW (run_V S hW (ct_X4_measure l n G A σ1 _ h2) mi_X4_measure lk_X4_101 (eC_20 G A σ1) rfl rfl rfl hl (Nat.le_of_ble_eq_true rfl) dX4_choose_14 ⟨Nat.le_of_ble_eq_true rfl, Nat.le_of_ble_eq_true rfl⟩ rfl rfl) (fun H locs hW => ?_)
    refine lv_aload_n hx hb dX4_choose_17 rfl (lv_at hl 0 rfl) ?_
    refine lv_iload_n hx hb dX4_choose_18 rfl (lv_at hl 1 rfl) ?_
    obtain ⟨v5, h4, h⟩ := bd_o h
    refine back_i (rest := []) hW (run_V S hW (ct_X4_leastWithGoal l n G A σ3 _ a1 h4) mi_X4_leastWithGoal lk_X4_104 (eC_20 G A σ3) rfl rfl rfl hl (Nat.le_of_ble_eq_true rfl) dX4_choose_19 ⟨Nat.le_of_ble_eq_true rfl, Nat.le_of_ble_eq_true rfl⟩ rfl rfl) (fun H locs hW => ?_)
    refine lv_istore_n (lv' := [(2, .int v5), (0, .ref (A 20)), (1, .int a1)]) hx hb dX4_choose_22 rfl hl (by decide) rfl (fun ls hl => ?_)
    refine lv_aload_n hx hb dX4_choose_23 rfl (lv_at hl 1 rfl) ?_
    refine lv_iload_n hx hb dX4_choose_24 rfl (lv_at hl 0 rfl) ?_
    refine lv_iconst (v := (-1)) hx hb dX4_choose_25 (by decide) ?_
    obtain ⟨J6, eJ6, h⟩ := jn_o h
    have hJ6 : ∀ (u7 : Int32)  (H : Heap) (locs : List Loc) (ls : Array Slot), WS G B s (wC G A σ3) H locs → lv_has ls 7 [(0, .ref (A 20)), (1, .int a1), (2, .int v5)] → J6 u7 = some σ0 → W p l e rmX4_choose s m args below meth c H locs 0 0 Q (F0 m 34 ls [.int u7, .ref (A 20)]) := by
      subst eJ6
      intro u7 H locs ls hW hl h
      obtain ⟨hz9, h⟩ := zb_o h
      refine pC_X4_found hz9 S hW lk_X4_36 dX4_choose_34 (fun σ8 H locs eσ8 hW => ?_)
      have h := lt_at eσ8 h
      refine lv_aload_n hx hb dX4_choose_37 rfl (lv_at hl 0 rfl) ?_
      refine lv_iconst (v := 0) hx hb dX4_choose_38 (by decide) ?_
      refine pC_X4_planLength S hW lk_X4_39 dX4_choose_39 (fun σ10 H locs eσ10 hW => ?_)
      have h := lt_at eσ10 h
      refine lv_aload_n hx hb dX4_choose_42 rfl (lv_at hl 0 rfl) ?_
      refine lv_iconst (v := 0) hx hb dX4_choose_43 (by decide) ?_
      refine pC_X4_planCost S hW lk_X4_42 dX4_choose_44 (fun σ11 H locs eσ11 hW => ?_)
      have h := lt_at eσ11 h
      refine lv_aload_n hx hb dX4_choose_47 rfl (lv_at hl 0 rfl) ?_
      refine gC_X4_found S hW lk_X4_36 dX4_choose_48 ?_
      refine bz_ne (tgt := 55) hx hb h dX4_choose_51 (by decide) (fun _ h => ?_) (fun _ h => ?_)
      · exact ret_vs (wf := wC G A) hret h hW dX4_choose_54
      · refine lv_aload_n hx hb dX4_choose_55 rfl (lv_at hl 0 rfl) ?_
        refine lv_iload_n hx hb dX4_choose_56 rfl (lv_at hl 1 rfl) ?_
        refine lv_iload_n hx hb dX4_choose_57 rfl (lv_at hl 2 rfl) ?_
        obtain ⟨σ13, h12, h⟩ := bd_o h
        refine back_v (rest := []) hW (run_V S hW (ct_X4_markBest l n G A σ11 _ a1 v5 h12) mi_X4_markBest lk_X4_107 (eC_20 G A σ11) rfl rfl rfl hl (Nat.le_of_ble_eq_true rfl) dX4_choose_58 ⟨Nat.le_of_ble_eq_true rfl, Nat.le_of_ble_eq_true rfl⟩ rfl rfl) (fun H locs hW => ?_)
        refine lv_aload_n hx hb dX4_choose_61 rfl (lv_at hl 0 rfl) ?_
        refine lv_iload_n hx hb dX4_choose_62 rfl (lv_at hl 2 rfl) ?_
        refine lv_sipush (v := 1000) hx hb dX4_choose_63 (by decide) ?_
        refine lv_idiv hx hb dX4_choose_66 (by decide) ?_
        refine pC_X4_planCost S hW lk_X4_42 dX4_choose_67 (fun σ14 H locs eσ14 hW => ?_)
        have h := lt_at eσ14 h
        refine lv_iload_n hx hb dX4_choose_70 rfl (lv_at hl 2 rfl) ?_
        refine lv_sipush (v := 1000) hx hb dX4_choose_71 (by decide) ?_
        refine lv_irem hx hb dX4_choose_74 (by decide) ?_
        refine nm_i h (fun v15 h => ?_)
        refine lv_istore_n (lv' := [(3, .int v15), (0, .ref (A 20)), (1, .int a1), (2, .int v5)]) hx hb dX4_choose_75 rfl hl (by decide) rfl (fun ls hl => ?_)
        refine lv_iconst (v := 0) hx hb dX4_choose_76 (by decide) ?_
        refine lv_istore (lv' := [(4, .int 0), (3, .int v15), (0, .ref (A 20)), (1, .int a1), (2, .int v5)]) hx hb dX4_choose_77 hl (by decide) rfl (fun ls hl => ?_)
        refine lv_iconst (v := 0) hx hb dX4_choose_79 (by decide) ?_
        refine lv_istore (lv' := [(5, .int 0), (4, .int 0), (3, .int v15), (0, .ref (A 20)), (1, .int a1), (2, .int v5)]) hx hb dX4_choose_80 hl (by decide) rfl (fun ls hl => ?_)
        have hL82 : ∀ (y3 : Int32) (K : SC → Option SC), (∀ (σ : SC) (H : Heap) (locs : List Loc) (ls : Array Slot), WS G B s (wC G A σ) H locs → lv_has ls 7 [] → K σ = some σ0 → W p l e rmX4_choose s m args below meth c H locs 0 0 Q (F0 m 152 ls [])) → ∀ (k : Nat) (σ : SC) (y4 : Int32) (y5 : Int32)  (H : Heap) (locs : List Loc) (ls : Array Slot), WS G B s (wC G A σ) H locs → lv_has ls 7 [(0, .ref (A 20)), (3, .int y3), (4, .int y4), (5, .int y5)] → LX4_choose_82 n y3 K k σ y4 y5 = some σ0 → W p l e rmX4_choose s m args below meth c H locs 0 0 Q (F0 m 82 ls []) := by
          intro y3 K hK k
          induction k with
          | zero => intro σ y4 y5 H locs ls hW hl h; rw [LX4_choose_82] at h; cases h
          | succ k ih =>
            intro σ y4 y5 H locs ls hW hl h
            rw [LX4_choose_82] at h
            refine lv_iload hx hb dX4_choose_82 (lv_at hl 3 rfl) ?_
            refine lv_iload_n hx hb dX4_choose_84 rfl (lv_at hl 1 rfl) ?_
            refine bc_ge (tgt := 152) hx hb h dX4_choose_85 (by decide) (fun _ h => ?_) (fun _ h => ?_)
            · exact hK σ _ _ _ hW (lv_sub hl [] rfl) h
            · refine lv_iload hx hb dX4_choose_88 (lv_at hl 3 rfl) ?_
              refine lv_sipush (v := 300) hx hb dX4_choose_90 (by decide) ?_
              refine bc_ge (tgt := 152) hx hb h dX4_choose_93 (by decide) (fun _ h => ?_) (fun _ h => ?_)
              · exact hK σ _ _ _ hW (lv_sub hl [] rfl) h
              · refine lv_iload hx hb dX4_choose_96 (lv_at hl 2 rfl) ?_
                refine lv_iconst (v := (-1)) hx hb dX4_choose_98 (by decide) ?_
                refine bc_eq (tgt := 152) hx hb h dX4_choose_99 (by decide) (fun _ h => ?_) (fun _ h => ?_)
                · exact hK σ _ _ _ hW (lv_sub hl [] rfl) h
                · refine lv_aload_n hx hb dX4_choose_102 rfl (lv_at hl 0 rfl) ?_
                  refine lv_iload hx hb dX4_choose_103 (lv_at hl 2 rfl) ?_
                  obtain ⟨v17, h16, h⟩ := bd_o h
                  refine back_i (rest := []) hW (run_V S hW (ct_X4_leastOnward l n G A σ _ y4 h16) mi_X4_leastOnward lk_X4_111 (eC_20 G A σ) rfl rfl rfl hl (Nat.le_of_ble_eq_true rfl) dX4_choose_105 ⟨Nat.le_of_ble_eq_true rfl, Nat.le_of_ble_eq_true rfl⟩ rfl rfl) (fun H locs hW => ?_)
                  refine lv_istore (lv' := [(6, .int v17), (0, .ref (A 20)), (3, .int y3), (4, .int y4), (5, .int y5)]) hx hb dX4_choose_108 hl (by decide) rfl (fun ls hl => ?_)
                  refine lv_iload hx hb dX4_choose_110 (lv_at hl 0 rfl) ?_
                  refine lv_iconst (v := (-1)) hx hb dX4_choose_112 (by decide) ?_
                  refine bc_ne (tgt := 119) hx hb h dX4_choose_113 (by decide) (fun _ h => ?_) (fun _ h => ?_)
                  · refine lv_goto (tgt := 152) hx hb dX4_choose_116 (by decide) ?_
                    exact hK σ _ _ _ hW (lv_sub hl [] rfl) h
                  · refine lv_aload_n hx hb dX4_choose_119 rfl (lv_at hl 1 rfl) ?_
                    refine gC_X4_plan S hW lk_X4_22 dX4_choose_120 ?_
                    refine lv_iload hx hb dX4_choose_123 (lv_at hl 4 rfl) ?_
                    refine lv_iload hx hb dX4_choose_125 (lv_at hl 0 rfl) ?_
                    refine sC_24 S hW h dX4_choose_127 (fun σ18 H locs eσ18 _ h hW => ?_)
                    have h := lt_at eσ18 h
                    refine lv_aload_n hx hb dX4_choose_128 rfl (lv_at hl 1 rfl) ?_
                    refine lv_iload hx hb dX4_choose_129 (lv_at hl 4 rfl) ?_
                    refine lv_iconst (v := 1) hx hb dX4_choose_131 (by decide) ?_
                    refine lv_iadd hx hb dX4_choose_132 ?_
                    refine pC_X4_planLength S hW lk_X4_39 dX4_choose_133 (fun σ19 H locs eσ19 hW => ?_)
                    have h := lt_at eσ19 h
                    refine lv_aload_n hx hb dX4_choose_136 rfl (lv_at hl 1 rfl) ?_
                    refine lv_iload hx hb dX4_choose_137 (lv_at hl 3 rfl) ?_
                    refine lv_iload hx hb dX4_choose_139 (lv_at hl 0 rfl) ?_
                    obtain ⟨v21, h20, h⟩ := bd_o h
                    refine back_i (rest := []) hW (run_V S hW (ct_X4_comesTo l n G A σ19 _ y4 v17 h20) mi_X4_comesTo lk_X4_77 (eC_20 G A σ19) rfl rfl rfl hl (Nat.le_of_ble_eq_true rfl) dX4_choose_141 ⟨Nat.le_of_ble_eq_true rfl, Nat.le_of_ble_eq_true rfl⟩ rfl rfl) (fun H locs hW => ?_)
                    refine lv_istore (lv' := [(4, .int v21), (6, .int v17), (0, .ref (A 20)), (3, .int y3), (5, .int y5)]) hx hb dX4_choose_144 hl (by decide) rfl (fun ls hl => ?_)
                    refine w_iinc (lv' := [(4, .int v21), (6, .int v17), (0, .ref (A 20)), (3, .int y3)]) hx hb dX4_choose_146 hl (k := 4) rfl (by decide) (by decide) rfl h (fun v22 ls hl h => ?_)
                    refine lv_goto (tgt := 82) hx hb dX4_choose_149 (by decide) ?_
                    exact ih σ19 v21 v22 _ _ _ hW (lv_sub hl [3, 4, 1, 0] rfl) h
        refine hL82 v15 _ (fun σ23 H locs ls hW hl h => ?_) n σ14 0 0 _ _ _ hW (lv_sub hl [3, 2, 1, 0] rfl) h
        exact ret_vs (wf := wC G A) hret h hW dX4_choose_152
    clear eJ6
    refine bc_eq (tgt := 33) hx hb h dX4_choose_26 (by decide) (fun _ h => ?_) (fun _ h => ?_)
    · refine lv_iconst (v := 0) hx hb dX4_choose_33 (by decide) ?_
      exact hJ6 0 _ _ _ hW (lv_sub hl [1, 2, 0] rfl) h
    · refine lv_iconst (v := 1) hx hb dX4_choose_29 (by decide) ?_
      refine lv_goto (tgt := 34) hx hb dX4_choose_30 (by decide) ?_
      exact hJ6 1 _ _ _ hW (lv_sub hl [1, 2, 0] rfl) h
  · exact ret_vs (wf := wC G A) hret h hW dX4_choose_7
def rmX10_follow : Room := { frames := 4, cells := 0, slots := 0, locals := 83 }
def LX10_follow_18 (y1 : Nat) (y2 : Int32) (K : SC → Option SC) : Nat → SC → Int32 → Option SC
  | 0, _, _ => none
  | k + 1, σ, y4 => if y2 ≤ y4 then K σ else if 100 ≤ y4 then K σ else bd (f_X8_intAt σ y1 y4) (fun v5 => if (f_X0_has σ v5) = 0 then lt (si σ 30 y4) (fun σ6 => some σ6) else bd (f_X0_isAllowed σ (gi σ 31) v5) (fun v8 => if v8 = 0 then lt (si σ 30 y4) (fun σ15 => some σ15) else bd (f_X0_after σ (gi σ 31) v5) (fun v10 => lt (si σ 31 v10) (fun σ11 => ld (ga σ11 3) 24 v5 (fun v12 => lt (si σ11 32 ((gi σ11 32) + v12)) (fun σ13 => lt (y4 + 1) (fun v14 => LX10_follow_18 y1 y2 K k σ13 v14)))))))
def f_X10_follow (n : Nat) (σ : SC) (j1 : Nat) (a2 : Int32) (a3 : Int32) : Option SC := lt (si σ 30 (-1)) (fun σ1 => lt (si σ1 31 a3) (fun σ2 => lt (si σ2 32 0) (fun σ3 => LX10_follow_18 j1 a2 (fun σ16 => some σ16) n σ3 0)))
theorem mi_X10_follow : MI yX10_follow cX10_follow 6 none 3 := ⟨im_X10_follow, se_X10_follow, in_X10, co_X10_follow, by decide, by decide, by decide +kernel⟩
set_option maxRecDepth 100000 in
set_option maxHeartbeats 4000000 in
theorem ct_X10_follow (l : Launch) (n : Nat) (G : EN) (A : Nat → Nat) (σ : SC) (sz : Nat) (j1 : Nat) (a2 : Int32) (a3 : Int32) (hj1 : j1 < 8) {σ0 : SC} (h : f_X10_follow n σ j1 a2 a3 = some σ0) : CT l yX10_follow cX10_follow 6 none rmX10_follow G sz [.ref (A 26), .ref (A (31 + 2 * j1)), .int a2, .int a3] (wC G A σ) (QV G (va_A (wC G A σ) sz) (wC G A σ0)) := by
  unfold f_X10_follow at h
  refine CV.intro (lv := [(0, .ref (A 26)), (1, .ref (A (31 + 2 * j1))), (2, .int a2), (3, .int a3)]) (by decide) (Nat.le_of_ble_eq_true rfl) rfl ?_
  intro p e s m args below meth c Q B S hret H locs ls hW hl
  have hx := S.1
  have hb := S.2.1
  refine lv_aload_n hx hb dX10_follow_0 rfl (lv_at hl 0 rfl) ?_
  refine lv_iconst (v := (-1)) hx hb dX10_follow_1 (by decide) ?_
  refine pC_X10_wrongAt S hW lk_X10_15 dX10_follow_2 (fun σ1 H locs eσ1 hW => ?_)
  have h := lt_at eσ1 h
  refine lv_aload_n hx hb dX10_follow_5 rfl (lv_at hl 0 rfl) ?_
  refine lv_iload_n hx hb dX10_follow_6 rfl (lv_at hl 3 rfl) ?_
  refine pC_X10_endState S hW lk_X10_19 dX10_follow_7 (fun σ2 H locs eσ2 hW => ?_)
  have h := lt_at eσ2 h
  refine lv_aload_n hx hb dX10_follow_10 rfl (lv_at hl 0 rfl) ?_
  refine lv_iconst (v := 0) hx hb dX10_follow_11 (by decide) ?_
  refine pC_X10_costSum S hW lk_X10_22 dX10_follow_12 (fun σ3 H locs eσ3 hW => ?_)
  have h := lt_at eσ3 h
  refine lv_iconst (v := 0) hx hb dX10_follow_15 (by decide) ?_
  refine lv_istore (lv' := [(4, .int 0), (0, .ref (A 26)), (1, .ref (A (31 + 2 * j1))), (2, .int a2), (3, .int a3)]) hx hb dX10_follow_16 hl (by decide) rfl (fun ls hl => ?_)
  have hL18 : ∀ (y1 : Nat) (y2 : Int32) (hy1 : y1 < 8) (K : SC → Option SC), (∀ (σ : SC) (H : Heap) (locs : List Loc) (ls : Array Slot), WS G B s (wC G A σ) H locs → lv_has ls 6 [] → K σ = some σ0 → W p l e rmX10_follow s m args below meth c H locs 0 0 Q (F0 m 116 ls [])) → ∀ (k : Nat) (σ : SC) (y4 : Int32)  (H : Heap) (locs : List Loc) (ls : Array Slot), WS G B s (wC G A σ) H locs → lv_has ls 6 [(0, .ref (A 26)), (1, .ref (A (31 + 2 * y1))), (2, .int y2), (4, .int y4)] → LX10_follow_18 y1 y2 K k σ y4 = some σ0 → W p l e rmX10_follow s m args below meth c H locs 0 0 Q (F0 m 18 ls []) := by
    intro y1 y2 hy1 K hK k
    induction k with
    | zero => intro σ y4 H locs ls hW hl h; rw [LX10_follow_18] at h; cases h
    | succ k ih =>
      intro σ y4 H locs ls hW hl h
      rw [LX10_follow_18] at h
      refine lv_iload hx hb dX10_follow_18 (lv_at hl 3 rfl) ?_
      refine lv_iload_n hx hb dX10_follow_20 rfl (lv_at hl 2 rfl) ?_
      refine bc_ge (tgt := 116) hx hb h dX10_follow_21 (by decide) (fun _ h => ?_) (fun _ h => ?_)
      · exact hK σ _ _ _ hW (lv_sub hl [] rfl) h
      · refine lv_iload hx hb dX10_follow_24 (lv_at hl 3 rfl) ?_
        refine lv_bipush (v := 100) hx hb dX10_follow_26 (by decide) ?_
        refine bc_ge (tgt := 116) hx hb h dX10_follow_28 (by decide) (fun _ h => ?_) (fun _ h => ?_)
        · exact hK σ _ _ _ hW (lv_sub hl [] rfl) h
        · refine lv_aload_n hx hb dX10_follow_31 rfl (lv_at hl 1 rfl) ?_
          refine lv_iload hx hb dX10_follow_32 (lv_at hl 3 rfl) ?_
          obtain ⟨v5, h4, h⟩ := bd_o h
          refine back_i (rest := []) hW (run_V S hW (ct_X8_intAt l G A σ _ y1 y4 hy1 h4) mi_X8_intAt lk_X10_29 (eC_sh G A σ hy1) rfl rfl rfl hl (Nat.le_of_ble_eq_true rfl) dX10_follow_34 ⟨Nat.le_of_ble_eq_true rfl, Nat.le_of_ble_eq_true rfl⟩ rfl rfl) (fun H locs hW => ?_)
          refine lv_istore (lv' := [(5, .int v5), (0, .ref (A 26)), (1, .ref (A (31 + 2 * y1))), (2, .int y2), (4, .int y4)]) hx hb dX10_follow_37 hl (by decide) rfl (fun ls hl => ?_)
          refine lv_aload_n hx hb dX10_follow_39 rfl (lv_at hl 1 rfl) ?_
          refine gC_X10_table S hW lk_X10_25 dX10_follow_40 ?_
          refine lv_iload hx hb dX10_follow_43 (lv_at hl 0 rfl) ?_
          refine back_i (rest := []) hW (run_V S hW (ct_X0_has l G A σ _ v5 rfl) mi_X0_has lk_X10_35 (eC_1 G A σ) rfl rfl rfl hl (Nat.le_of_ble_eq_true rfl) dX10_follow_45 ⟨Nat.le_of_ble_eq_true rfl, Nat.le_of_ble_eq_true rfl⟩ rfl rfl) (fun H locs hW => ?_)
          refine bz_eq (tgt := 67) hx hb h dX10_follow_48 (by decide) (fun _ h => ?_) (fun _ h => ?_)
          · refine lv_aload_n hx hb dX10_follow_67 rfl (lv_at hl 1 rfl) ?_
            refine lv_iload hx hb dX10_follow_68 (lv_at hl 4 rfl) ?_
            refine pC_X10_wrongAt S hW lk_X10_15 dX10_follow_70 (fun σ6 H locs eσ6 hW => ?_)
            have h := lt_at eσ6 h
            exact ret_vs (wf := wC G A) hret h hW dX10_follow_73
          · refine lv_aload_n hx hb dX10_follow_51 rfl (lv_at hl 1 rfl) ?_
            refine gC_X10_table S hW lk_X10_25 dX10_follow_52 ?_
            refine lv_aload_n hx hb dX10_follow_55 rfl (lv_at hl 1 rfl) ?_
            refine gC_X10_endState S hW lk_X10_19 dX10_follow_56 ?_
            refine lv_iload hx hb dX10_follow_59 (lv_at hl 0 rfl) ?_
            obtain ⟨v8, h7, h⟩ := bd_o h
            refine back_i (rest := []) hW (run_V S hW (ct_X0_isAllowed l G A σ _ (gi σ 31) v5 h7) mi_X0_isAllowed lk_X10_41 (eC_1 G A σ) rfl rfl rfl hl (Nat.le_of_ble_eq_true rfl) dX10_follow_61 ⟨Nat.le_of_ble_eq_true rfl, Nat.le_of_ble_eq_true rfl⟩ rfl rfl) (fun H locs hW => ?_)
            refine bz_ne (tgt := 74) hx hb h dX10_follow_64 (by decide) (fun _ h => ?_) (fun _ h => ?_)
            · refine lv_aload_n hx hb dX10_follow_67 rfl (lv_at hl 1 rfl) ?_
              refine lv_iload hx hb dX10_follow_68 (lv_at hl 4 rfl) ?_
              refine pC_X10_wrongAt S hW lk_X10_15 dX10_follow_70 (fun σ15 H locs eσ15 hW => ?_)
              have h := lt_at eσ15 h
              exact ret_vs (wf := wC G A) hret h hW dX10_follow_73
            · refine lv_aload_n hx hb dX10_follow_74 rfl (lv_at hl 1 rfl) ?_
              refine lv_aload_n hx hb dX10_follow_75 rfl (lv_at hl 1 rfl) ?_
              refine gC_X10_table S hW lk_X10_25 dX10_follow_76 ?_
              refine lv_aload_n hx hb dX10_follow_79 rfl (lv_at hl 1 rfl) ?_
              refine gC_X10_endState S hW lk_X10_19 dX10_follow_80 ?_
              refine lv_iload hx hb dX10_follow_83 (lv_at hl 0 rfl) ?_
              obtain ⟨v10, h9, h⟩ := bd_o h
              refine back_i (rest := [.ref (A 26)]) hW (run_V S hW (ct_X0_after l G A σ _ (gi σ 31) v5 h9) mi_X0_after lk_X10_45 (eC_1 G A σ) rfl rfl rfl hl (Nat.le_of_ble_eq_true rfl) dX10_follow_85 ⟨Nat.le_of_ble_eq_true rfl, Nat.le_of_ble_eq_true rfl⟩ rfl rfl) (fun H locs hW => ?_)
              refine pC_X10_endState S hW lk_X10_19 dX10_follow_88 (fun σ11 H locs eσ11 hW => ?_)
              have h := lt_at eσ11 h
              refine lv_aload_n hx hb dX10_follow_91 rfl (lv_at hl 1 rfl) ?_
              refine lv_dup hx hb dX10_follow_92 rfl ?_
              refine gC_X10_costSum S hW lk_X10_22 dX10_follow_93 ?_
              refine lv_aload_n hx hb dX10_follow_96 rfl (lv_at hl 1 rfl) ?_
              refine gC_X10_table S hW lk_X10_25 dX10_follow_97 ?_
              refine gC_X0_costs S hW lk_X10_49 dX10_follow_100 ?_
              refine lv_iload hx hb dX10_follow_103 (lv_at hl 0 rfl) ?_
              refine aC_5 S hW h dX10_follow_105 (fun v12 _ h => ?_)
              refine lv_iadd hx hb dX10_follow_106 ?_
              refine pC_X10_costSum S hW lk_X10_22 dX10_follow_107 (fun σ13 H locs eσ13 hW => ?_)
              have h := lt_at eσ13 h
              refine w_iinc (lv' := [(5, .int v5), (0, .ref (A 26)), (1, .ref (A (31 + 2 * y1))), (2, .int y2)]) hx hb dX10_follow_110 hl (k := 4) rfl (by decide) (by decide) rfl h (fun v14 ls hl h => ?_)
              refine lv_goto (tgt := 18) hx hb dX10_follow_113 (by decide) ?_
              exact ih σ13 v14 _ _ _ hW (lv_sub hl [2, 3, 4, 0] rfl) h
  refine hL18 j1 a2 hj1 _ (fun σ16 H locs ls hW hl h => ?_) n σ3 0 _ _ _ hW (lv_sub hl [1, 2, 3, 0] rfl) h
  exact ret_vs (wf := wC G A) hret h hW dX10_follow_116
def rmX10_areActions : Room := { frames := 4, cells := 0, slots := 0, locals := 83 }
def LX10_areActions_2 (σ : SC) (y1 : Nat) (y2 : Int32) (K : Unit → Option Int32) : Nat → Int32 → Option Int32
  | 0, _ => none
  | k + 1, y3 => if y2 ≤ y3 then K () else if 100 ≤ y3 then K () else bd (f_X8_intAt σ y1 y3) (fun v2 => if (f_X0_has σ v2) = 0 then some 0 else lt (y3 + 1) (fun v3 => LX10_areActions_2 σ y1 y2 K k v3))
def f_X10_areActions (n : Nat) (σ : SC) (j1 : Nat) (a2 : Int32) : Option Int32 := LX10_areActions_2 σ j1 a2 (fun _ => some 1) n 0
theorem mi_X10_areActions : MI yX10_areActions cX10_areActions 4 (some .boolean) 2 := ⟨im_X10_areActions, se_X10_areActions, in_X10, co_X10_areActions, by decide, by decide, by decide +kernel⟩
set_option maxRecDepth 100000 in
set_option maxHeartbeats 4000000 in
theorem ct_X10_areActions (l : Launch) (n : Nat) (G : EN) (A : Nat → Nat) (σ : SC) (sz : Nat) (j1 : Nat) (a2 : Int32) (hj1 : j1 < 8) {r0 : Int32} (h : f_X10_areActions n σ j1 a2 = some r0) : CT l yX10_areActions cX10_areActions 4 (some .boolean) rmX10_areActions G sz [.ref (A 26), .ref (A (31 + 2 * j1)), .int a2] (wC G A σ) (QI G (va_A (wC G A σ) sz) r0 (wC G A σ)) := by
  unfold f_X10_areActions at h
  refine CI.intro (lv := [(0, .ref (A 26)), (1, .ref (A (31 + 2 * j1))), (2, .int a2)]) (by decide) (Nat.le_of_ble_eq_true rfl) rfl ?_
  intro p e s m args below meth c Q B S hret H locs ls hW hl
  have hx := S.1
  have hb := S.2.1
  refine lv_iconst (v := 0) hx hb dX10_areActions_0 (by decide) ?_
  refine lv_istore_n (lv' := [(3, .int 0), (0, .ref (A 26)), (1, .ref (A (31 + 2 * j1))), (2, .int a2)]) hx hb dX10_areActions_1 rfl hl (by decide) rfl (fun ls hl => ?_)
  have hL2 : ∀ (y1 : Nat) (y2 : Int32) (hy1 : y1 < 8) (K : Unit → Option Int32), (∀  (H : Heap) (locs : List Loc) (ls : Array Slot), WS G B s (wC G A σ) H locs → lv_has ls 4 [] → K () = some r0 → W p l e rmX10_areActions s m args below meth c H locs 0 0 Q (F0 m 36 ls [])) → ∀ (k : Nat)  (y3 : Int32)  (H : Heap) (locs : List Loc) (ls : Array Slot), WS G B s (wC G A σ) H locs → lv_has ls 4 [(0, .ref (A 26)), (1, .ref (A (31 + 2 * y1))), (2, .int y2), (3, .int y3)] → LX10_areActions_2 σ y1 y2 K k y3 = some r0 → W p l e rmX10_areActions s m args below meth c H locs 0 0 Q (F0 m 2 ls []) := by
    intro y1 y2 hy1 K hK k
    induction k with
    | zero => intro y3 H locs ls hW hl h; rw [LX10_areActions_2] at h; cases h
    | succ k ih =>
      intro y3 H locs ls hW hl h
      rw [LX10_areActions_2] at h
      refine lv_iload_n hx hb dX10_areActions_2 rfl (lv_at hl 3 rfl) ?_
      refine lv_iload_n hx hb dX10_areActions_3 rfl (lv_at hl 2 rfl) ?_
      refine bc_ge (tgt := 36) hx hb h dX10_areActions_4 (by decide) (fun _ h => ?_) (fun _ h => ?_)
      · exact hK  _ _ _ hW (lv_sub hl [] rfl) h
      · refine lv_iload_n hx hb dX10_areActions_7 rfl (lv_at hl 3 rfl) ?_
        refine lv_bipush (v := 100) hx hb dX10_areActions_8 (by decide) ?_
        refine bc_ge (tgt := 36) hx hb h dX10_areActions_10 (by decide) (fun _ h => ?_) (fun _ h => ?_)
        · exact hK  _ _ _ hW (lv_sub hl [] rfl) h
        · refine lv_aload_n hx hb dX10_areActions_13 rfl (lv_at hl 0 rfl) ?_
          refine gC_X10_table S hW lk_X10_25 dX10_areActions_14 ?_
          refine lv_aload_n hx hb dX10_areActions_17 rfl (lv_at hl 1 rfl) ?_
          refine lv_iload_n hx hb dX10_areActions_18 rfl (lv_at hl 3 rfl) ?_
          obtain ⟨v2, h1, h⟩ := bd_o h
          refine back_i (rest := [.ref (A 1)]) hW (run_V S hW (ct_X8_intAt l G A σ _ y1 y3 hy1 h1) mi_X8_intAt lk_X10_29 (eC_sh G A σ hy1) rfl rfl rfl hl (Nat.le_of_ble_eq_true rfl) dX10_areActions_19 ⟨Nat.le_of_ble_eq_true rfl, Nat.le_of_ble_eq_true rfl⟩ rfl rfl) (fun H locs hW => ?_)
          refine back_i (rest := []) hW (run_V S hW (ct_X0_has l G A σ _ v2 rfl) mi_X0_has lk_X10_35 (eC_1 G A σ) rfl rfl rfl hl (Nat.le_of_ble_eq_true rfl) dX10_areActions_22 ⟨Nat.le_of_ble_eq_true rfl, Nat.le_of_ble_eq_true rfl⟩ rfl rfl) (fun H locs hW => ?_)
          refine bz_ne (tgt := 30) hx hb h dX10_areActions_25 (by decide) (fun _ h => ?_) (fun _ h => ?_)
          · refine lv_iconst (v := 0) hx hb dX10_areActions_28 (by decide) ?_
            exact hret H locs _ ls _ (Option.some.inj h) (nar_z (Or.inl rfl)) hW dX10_areActions_29
          · refine w_iinc (lv' := [(0, .ref (A 26)), (1, .ref (A (31 + 2 * y1))), (2, .int y2)]) hx hb dX10_areActions_30 hl (k := 3) rfl (by decide) (by decide) rfl h (fun v3 ls hl h => ?_)
            refine lv_goto (tgt := 2) hx hb dX10_areActions_33 (by decide) ?_
            exact ih v3 _ _ _ hW (lv_sub hl [1, 2, 3, 0] rfl) h
  refine hL2 j1 a2 hj1 _ (fun  H locs ls hW hl h => ?_) n 0 _ _ _ hW (lv_sub hl [1, 2, 3, 0] rfl) h
  refine lv_iconst (v := 1) hx hb dX10_areActions_36 (by decide) ?_
  exact hret H locs _ ls _ (Option.some.inj h) (nar_z (Or.inr rfl)) hW dX10_areActions_37
def rmX10_commonestPair : Room := { frames := 12, cells := 0, slots := 0, locals := 400 }
def LX10_commonestPair_10 (y1 : Nat) (y2 : Int32) (K : SC → Option (Int32 × SC)) : Nat → SC → Int32 → Option (Int32 × SC)
  | 0, _, _ => none
  | k + 1, σ, y3 => if y2 ≤ y3 then K σ else if 100 ≤ y3 then K σ else bd (f_X8_intAt σ y1 (y3 - 1)) (fun v3 => bd (f_X8_intAt σ y1 y3) (fun v5 => lt ((v3 * 24) + v5) (fun v6 => if v6 < 0 then lt (y3 + 1) (fun v7 => LX10_commonestPair_10 y1 y2 K k σ v7) else if 576 ≤ v6 then lt (y3 + 1) (fun v8 => LX10_commonestPair_10 y1 y2 K k σ v8) else ld (ga σ 16) 576 v6 (fun v9 => ck 576 v6 (lt (sa σ 16 (upd (ga σ 16) v6.toNatClampNeg (v9 + 1))) (fun σ10 => lt (y3 + 1) (fun v11 => LX10_commonestPair_10 y1 y2 K k σ10 v11)))))))
def LX10_commonestPair_76 (σ : SC) (K : Int32 → Option (Int32 × SC)) : Nat → Int32 → Int32 → Option (Int32 × SC)
  | 0, _, _ => none
  | k + 1, y3, y4 => if 576 ≤ y4 then K y3 else ld (ga σ 16) 576 y4 (fun v13 => ld (ga σ 16) 576 y3 (fun v14 => if v13 ≤ v14 then lt (y4 + 1) (fun v15 => LX10_commonestPair_76 σ K k y3 v15) else lt (y4 + 1) (fun v16 => LX10_commonestPair_76 σ K k y4 v16)))
def f_X10_commonestPair (n : Nat) (σ : SC) (j1 : Nat) (a2 : Int32) : Option (Int32 × SC) := lt (sa σ 16 (fun _ => 0)) (fun σ1 => LX10_commonestPair_10 j1 a2 (fun σ12 => LX10_commonestPair_76 σ12 (fun w17 => some (w17, σ12)) n 0 1) n σ1 1)
theorem mi_X10_commonestPair : MI yX10_commonestPair cX10_commonestPair 5 (some .int) 2 := ⟨im_X10_commonestPair, se_X10_commonestPair, in_X10, co_X10_commonestPair, by decide, by decide, by decide +kernel⟩
set_option maxRecDepth 100000 in
set_option maxHeartbeats 4000000 in
theorem ct_X10_commonestPair (l : Launch) (n : Nat) (G : EN) (A : Nat → Nat) (σ : SC) (sz : Nat) (j1 : Nat) (a2 : Int32) (hj1 : j1 < 8) {r0 : Int32} {σ0 : SC} (h : f_X10_commonestPair n σ j1 a2 = some (r0, σ0)) : CT l yX10_commonestPair cX10_commonestPair 5 (some .int) rmX10_commonestPair G sz [.ref (A 26), .ref (A (31 + 2 * j1)), .int a2] (wC G A σ) (QI G (va_A (wC G A σ) sz) r0 (wC G A σ0)) := by
  unfold f_X10_commonestPair at h
  refine CI.intro (lv := [(0, .ref (A 26)), (1, .ref (A (31 + 2 * j1))), (2, .int a2)]) (by decide) (Nat.le_of_ble_eq_true rfl) rfl ?_
  intro p e s m args below meth c Q B S hret H locs ls hW hl
  have hx := S.1
  have hb := S.2.1
  refine lv_aload_n hx hb dX10_commonestPair_0 rfl (lv_at hl 0 rfl) ?_
  refine gC_X10_pairs S hW lk_X10_9 dX10_commonestPair_1 ?_
  refine lv_iconst (v := 0) hx hb dX10_commonestPair_4 (by decide) ?_
  refine back_v (rest := []) hW (run_S S hW (ct_fillI l G _ (eC_27 G A σ) (uCa_16 G A σ _) (by decide)) ms_J7_fill_53178 lk_X10_52 rfl rfl hl (Nat.le_of_ble_eq_true rfl) dX10_commonestPair_5 ⟨Nat.le_of_ble_eq_true rfl, Nat.le_of_ble_eq_true rfl⟩ rfl rfl) (fun H locs hW => ?_)
  obtain ⟨σ1, eσ1, h⟩ := lt_o h
  rw [← eσ1] at hW
  refine lv_iconst (v := 1) hx hb dX10_commonestPair_8 (by decide) ?_
  refine lv_istore_n (lv' := [(3, .int 1), (0, .ref (A 26)), (1, .ref (A (31 + 2 * j1))), (2, .int a2)]) hx hb dX10_commonestPair_9 rfl hl (by decide) rfl (fun ls hl => ?_)
  have hL10 : ∀ (y1 : Nat) (y2 : Int32) (hy1 : y1 < 8) (K : SC → Option (Int32 × SC)), (∀ (σ : SC) (H : Heap) (locs : List Loc) (ls : Array Slot), WS G B s (wC G A σ) H locs → lv_has ls 5 [(0, .ref (A 26))] → K σ = some (r0, σ0) → W p l e rmX10_commonestPair s m args below meth c H locs 0 0 Q (F0 m 71 ls [])) → ∀ (k : Nat) (σ : SC) (y3 : Int32)  (H : Heap) (locs : List Loc) (ls : Array Slot), WS G B s (wC G A σ) H locs → lv_has ls 5 [(0, .ref (A 26)), (1, .ref (A (31 + 2 * y1))), (2, .int y2), (3, .int y3)] → LX10_commonestPair_10 y1 y2 K k σ y3 = some (r0, σ0) → W p l e rmX10_commonestPair s m args below meth c H locs 0 0 Q (F0 m 10 ls []) := by
    intro y1 y2 hy1 K hK k
    induction k with
    | zero => intro σ y3 H locs ls hW hl h; rw [LX10_commonestPair_10] at h; cases h
    | succ k ih =>
      intro σ y3 H locs ls hW hl h
      rw [LX10_commonestPair_10] at h
      refine lv_iload_n hx hb dX10_commonestPair_10 rfl (lv_at hl 3 rfl) ?_
      refine lv_iload_n hx hb dX10_commonestPair_11 rfl (lv_at hl 2 rfl) ?_
      refine bc_ge (tgt := 71) hx hb h dX10_commonestPair_12 (by decide) (fun _ h => ?_) (fun _ h => ?_)
      · exact hK σ _ _ _ hW (lv_sub hl [0] rfl) h
      · refine lv_iload_n hx hb dX10_commonestPair_15 rfl (lv_at hl 3 rfl) ?_
        refine lv_bipush (v := 100) hx hb dX10_commonestPair_16 (by decide) ?_
        refine bc_ge (tgt := 71) hx hb h dX10_commonestPair_18 (by decide) (fun _ h => ?_) (fun _ h => ?_)
        · exact hK σ _ _ _ hW (lv_sub hl [0] rfl) h
        · refine lv_aload_n hx hb dX10_commonestPair_21 rfl (lv_at hl 1 rfl) ?_
          refine lv_iload_n hx hb dX10_commonestPair_22 rfl (lv_at hl 3 rfl) ?_
          refine lv_iconst (v := 1) hx hb dX10_commonestPair_23 (by decide) ?_
          refine lv_isub hx hb dX10_commonestPair_24 ?_
          obtain ⟨v3, h2, h⟩ := bd_o h
          refine back_i (rest := []) hW (run_V S hW (ct_X8_intAt l G A σ _ y1 (y3 - 1) hy1 h2) mi_X8_intAt lk_X10_29 (eC_sh G A σ hy1) rfl rfl rfl hl (Nat.le_of_ble_eq_true rfl) dX10_commonestPair_25 ⟨Nat.le_of_ble_eq_true rfl, Nat.le_of_ble_eq_true rfl⟩ rfl rfl) (fun H locs hW => ?_)
          refine lv_bipush (v := 24) hx hb dX10_commonestPair_28 (by decide) ?_
          refine lv_imul hx hb dX10_commonestPair_30 ?_
          refine lv_aload_n hx hb dX10_commonestPair_31 rfl (lv_at hl 1 rfl) ?_
          refine lv_iload_n hx hb dX10_commonestPair_32 rfl (lv_at hl 3 rfl) ?_
          obtain ⟨v5, h4, h⟩ := bd_o h
          refine back_i (rest := [.int (v3 * 24)]) hW (run_V S hW (ct_X8_intAt l G A σ _ y1 y3 hy1 h4) mi_X8_intAt lk_X10_29 (eC_sh G A σ hy1) rfl rfl rfl hl (Nat.le_of_ble_eq_true rfl) dX10_commonestPair_33 ⟨Nat.le_of_ble_eq_true rfl, Nat.le_of_ble_eq_true rfl⟩ rfl rfl) (fun H locs hW => ?_)
          refine lv_iadd hx hb dX10_commonestPair_36 ?_
          refine nm_i h (fun v6 h => ?_)
          refine lv_istore (lv' := [(4, .int v6), (0, .ref (A 26)), (1, .ref (A (31 + 2 * y1))), (2, .int y2), (3, .int y3)]) hx hb dX10_commonestPair_37 hl (by decide) rfl (fun ls hl => ?_)
          refine lv_iload hx hb dX10_commonestPair_39 (lv_at hl 0 rfl) ?_
          refine bz_lt (tgt := 65) hx hb h dX10_commonestPair_41 (by decide) (fun _ h => ?_) (fun _ h => ?_)
          · refine w_iinc (lv' := [(4, .int v6), (0, .ref (A 26)), (1, .ref (A (31 + 2 * y1))), (2, .int y2)]) hx hb dX10_commonestPair_65 hl (k := 4) rfl (by decide) (by decide) rfl h (fun v7 ls hl h => ?_)
            refine lv_goto (tgt := 10) hx hb dX10_commonestPair_68 (by decide) ?_
            exact ih σ v7 _ _ _ hW (lv_sub hl [2, 3, 4, 0] rfl) h
          · refine lv_iload hx hb dX10_commonestPair_44 (lv_at hl 0 rfl) ?_
            refine lv_aload_n hx hb dX10_commonestPair_46 rfl (lv_at hl 1 rfl) ?_
            refine gC_X10_pairs S hW lk_X10_9 dX10_commonestPair_47 ?_
            refine va_alen hx hb hW.1 hW.2.1 27 0 (eC_27 G A σ) rfl (v := 576) (show Int32.ofNat 576 = 576 from by decide) dX10_commonestPair_50 ?_
            refine bc_ge (tgt := 65) hx hb h dX10_commonestPair_51 (by decide) (fun _ h => ?_) (fun _ h => ?_)
            · refine w_iinc (lv' := [(4, .int v6), (0, .ref (A 26)), (1, .ref (A (31 + 2 * y1))), (2, .int y2)]) hx hb dX10_commonestPair_65 hl (k := 4) rfl (by decide) (by decide) rfl h (fun v8 ls hl h => ?_)
              refine lv_goto (tgt := 10) hx hb dX10_commonestPair_68 (by decide) ?_
              exact ih σ v8 _ _ _ hW (lv_sub hl [2, 3, 4, 0] rfl) h
            · refine lv_aload_n hx hb dX10_commonestPair_54 rfl (lv_at hl 1 rfl) ?_
              refine gC_X10_pairs S hW lk_X10_9 dX10_commonestPair_55 ?_
              refine lv_iload hx hb dX10_commonestPair_58 (lv_at hl 0 rfl) ?_
              refine lv_dup2_11 hx hb dX10_commonestPair_60 rfl rfl ?_
              refine aC_27 S hW h dX10_commonestPair_61 (fun v9 _ h => ?_)
              refine lv_iconst (v := 1) hx hb dX10_commonestPair_62 (by decide) ?_
              refine lv_iadd hx hb dX10_commonestPair_63 ?_
              refine sC_27 S hW h dX10_commonestPair_64 (fun σ10 H locs eσ10 _ h hW => ?_)
              have h := lt_at eσ10 h
              refine w_iinc (lv' := [(4, .int v6), (0, .ref (A 26)), (1, .ref (A (31 + 2 * y1))), (2, .int y2)]) hx hb dX10_commonestPair_65 hl (k := 4) rfl (by decide) (by decide) rfl h (fun v11 ls hl h => ?_)
              refine lv_goto (tgt := 10) hx hb dX10_commonestPair_68 (by decide) ?_
              exact ih σ10 v11 _ _ _ hW (lv_sub hl [2, 3, 4, 0] rfl) h
  refine hL10 j1 a2 hj1 _ (fun σ12 H locs ls hW hl h => ?_) n σ1 1 _ _ _ hW (lv_sub hl [1, 2, 3, 0] rfl) h
  refine lv_iconst (v := 0) hx hb dX10_commonestPair_71 (by decide) ?_
  refine lv_istore_n (lv' := [(3, .int 0), (0, .ref (A 26))]) hx hb dX10_commonestPair_72 rfl hl (by decide) rfl (fun ls hl => ?_)
  refine lv_iconst (v := 1) hx hb dX10_commonestPair_73 (by decide) ?_
  refine lv_istore (lv' := [(4, .int 1), (3, .int 0), (0, .ref (A 26))]) hx hb dX10_commonestPair_74 hl (by decide) rfl (fun ls hl => ?_)
  have hL76 : ∀ (σ : SC) (K : Int32 → Option (Int32 × SC)), (∀ (z3 : Int32) (H : Heap) (locs : List Loc) (ls : Array Slot), WS G B s (wC G A σ) H locs → lv_has ls 5 [(3, .int z3)] → K z3 = some (r0, σ0) → W p l e rmX10_commonestPair s m args below meth c H locs 0 0 Q (F0 m 111 ls [])) → ∀ (k : Nat)  (y3 : Int32) (y4 : Int32)  (H : Heap) (locs : List Loc) (ls : Array Slot), WS G B s (wC G A σ) H locs → lv_has ls 5 [(0, .ref (A 26)), (3, .int y3), (4, .int y4)] → LX10_commonestPair_76 σ K k y3 y4 = some (r0, σ0) → W p l e rmX10_commonestPair s m args below meth c H locs 0 0 Q (F0 m 76 ls []) := by
    intro σ K hK k
    induction k with
    | zero => intro y3 y4 H locs ls hW hl h; rw [LX10_commonestPair_76] at h; cases h
    | succ k ih =>
      intro y3 y4 H locs ls hW hl h
      rw [LX10_commonestPair_76] at h
      refine lv_iload hx hb dX10_commonestPair_76 (lv_at hl 2 rfl) ?_
      refine lv_aload_n hx hb dX10_commonestPair_78 rfl (lv_at hl 0 rfl) ?_
      refine gC_X10_pairs S hW lk_X10_9 dX10_commonestPair_79 ?_
      refine va_alen hx hb hW.1 hW.2.1 27 0 (eC_27 G A σ) rfl (v := 576) (show Int32.ofNat 576 = 576 from by decide) dX10_commonestPair_82 ?_
      refine bc_ge (tgt := 111) hx hb h dX10_commonestPair_83 (by decide) (fun _ h => ?_) (fun _ h => ?_)
      · exact hK y3 _ _ _ hW (lv_sub hl [1] rfl) h
      · refine lv_aload_n hx hb dX10_commonestPair_86 rfl (lv_at hl 0 rfl) ?_
        refine gC_X10_pairs S hW lk_X10_9 dX10_commonestPair_87 ?_
        refine lv_iload hx hb dX10_commonestPair_90 (lv_at hl 2 rfl) ?_
        refine aC_27 S hW h dX10_commonestPair_92 (fun v13 _ h => ?_)
        refine lv_aload_n hx hb dX10_commonestPair_93 rfl (lv_at hl 0 rfl) ?_
        refine gC_X10_pairs S hW lk_X10_9 dX10_commonestPair_94 ?_
        refine lv_iload_n hx hb dX10_commonestPair_97 rfl (lv_at hl 1 rfl) ?_
        refine aC_27 S hW h dX10_commonestPair_98 (fun v14 _ h => ?_)
        refine bc_le (tgt := 105) hx hb h dX10_commonestPair_99 (by decide) (fun _ h => ?_) (fun _ h => ?_)
        · refine w_iinc (lv' := [(0, .ref (A 26)), (3, .int y3)]) hx hb dX10_commonestPair_105 hl (k := 2) rfl (by decide) (by decide) rfl h (fun v15 ls hl h => ?_)
          refine lv_goto (tgt := 76) hx hb dX10_commonestPair_108 (by decide) ?_
          exact ih y3 v15 _ _ _ hW (lv_sub hl [1, 2, 0] rfl) h
        · refine lv_iload hx hb dX10_commonestPair_102 (lv_at hl 2 rfl) ?_
          refine lv_istore_n (lv' := [(3, .int y4), (0, .ref (A 26)), (4, .int y4)]) hx hb dX10_commonestPair_104 rfl hl (by decide) rfl (fun ls hl => ?_)
          refine w_iinc (lv' := [(3, .int y4), (0, .ref (A 26))]) hx hb dX10_commonestPair_105 hl (k := 2) rfl (by decide) (by decide) rfl h (fun v16 ls hl h => ?_)
          refine lv_goto (tgt := 76) hx hb dX10_commonestPair_108 (by decide) ?_
          exact ih y4 v16 _ _ _ hW (lv_sub hl [2, 1, 0] rfl) h
  refine hL76 σ12 _ (fun w17 H locs ls hW hl h => ?_) n 0 1 _ _ _ hW (lv_sub hl [2, 1, 0] rfl) h
  refine lv_iload_n hx hb dX10_commonestPair_111 rfl (lv_at hl 0 rfl) ?_
  exact ret_is (wf := wC G A) hret h rfl hW dX10_commonestPair_112
