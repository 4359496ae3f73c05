def rmX0_has : Room := { frames := 0, cells := 0, slots := 0, locals := 0 }
def f_X0_has (σ : SC) (a1 : Int32) : Int32 := if a1 < 0 then 0 else if (gi σ 6) ≤ a1 then 0 else 1
theorem z_X0_has (σ : SC) (a1 : Int32) : f_X0_has σ a1 = 0 ∨ f_X0_has σ a1 = 1 := by
  unfold f_X0_has
  repeat' (first | split | exact Or.inl rfl | exact Or.inr rfl)
theorem mi_X0_has : MI yX0_has cX0_has 2 (some .boolean) 1 := ⟨im_X0_has, se_X0_has, in_X0, co_X0_has, by decide, by decide, by decide +kernel⟩
set_option maxRecDepth 100000 in
set_option maxHeartbeats 4000000 in
theorem ct_X0_has (l : Launch) (G : EN) (A : Nat → Nat) (σ : SC) (sz : Nat) (a1 : Int32) {r0 : Int32} (h : f_X0_has σ a1 = r0) : CT l yX0_has cX0_has 2 (some .boolean) rmX0_has G sz [.ref (A 1), .int a1] (wC G A σ) (QI G (va_A (wC G A σ) sz) r0 (wC G A σ)) := by
  unfold f_X0_has at h
  refine CI.intro (lv := [(0, .ref (A 1)), (1, .int a1)]) (by decide) (Nat.le_of_ble_eq_true rfl) rfl ?_
  intro p e s m args below meth c Q B S hret H locs ls hW hl
  have hx := S.1
  have hb := S.2.1
  refine lv_iload_n hx hb dX0_has_0 rfl (lv_at hl 1 rfl) ?_
  refine bz_lt (tgt := 16) hx hb h dX0_has_1 (by decide) (fun _ h => ?_) (fun _ h => ?_)
  · refine lv_iconst (v := 0) hx hb dX0_has_16 (by decide) ?_
    exact hret H locs _ ls _ h (nar_z (Or.inl rfl)) hW dX0_has_17
  · refine lv_iload_n hx hb dX0_has_4 rfl (lv_at hl 1 rfl) ?_
    refine lv_aload_n hx hb dX0_has_5 rfl (lv_at hl 0 rfl) ?_
    refine gC_X0_count S hW lk_X0_36 dX0_has_6 ?_
    refine bc_ge (tgt := 16) hx hb h dX0_has_9 (by decide) (fun _ h => ?_) (fun _ h => ?_)
    · refine lv_iconst (v := 0) hx hb dX0_has_16 (by decide) ?_
      exact hret H locs _ ls _ h (nar_z (Or.inl rfl)) hW dX0_has_17
    · refine lv_iconst (v := 1) hx hb dX0_has_12 (by decide) ?_
      refine lv_goto (tgt := 17) hx hb dX0_has_13 (by decide) ?_
      exact hret H locs _ ls _ h (nar_z (Or.inr rfl)) hW dX0_has_17
def rmX0_write : Room := { frames := 0, cells := 0, slots := 0, locals := 0 }
def f_X0_write (σ : SC) (a1 : Int32) (a2 : Int32) (a3 : Int32) (a4 : Int32) (a5 : Int32) : Option SC := if a1 < 0 then some σ else if a1 < 24 then ck 24 a1 (lt (sa σ 0 (upd (ga σ 0) a1.toNatClampNeg a2)) (fun σ1 => ck 24 a1 (lt (sa σ1 1 (upd (ga σ1 1) a1.toNatClampNeg a3)) (fun σ2 => ck 24 a1 (lt (sa σ2 2 (upd (ga σ2 2) a1.toNatClampNeg a4)) (fun σ3 => ck 24 a1 (lt (sa σ3 3 (upd (ga σ3 3) a1.toNatClampNeg a5)) (fun σ4 => ck 24 a1 (lt (sa σ4 4 (upd (ga σ4 4) a1.toNatClampNeg 0)) (fun σ5 => ck 24 a1 (lt (sa σ5 5 (upd (ga σ5 5) a1.toNatClampNeg (-1))) (fun σ6 => ck 24 a1 (lt (sa σ6 6 (upd (ga σ6 6) a1.toNatClampNeg (-1))) (fun σ7 => ck 24 a1 (lt (sa σ7 7 (upd (ga σ7 7) a1.toNatClampNeg 1)) (fun σ8 => some σ8)))))))))))))))) else some σ
theorem mi_X0_write : MI yX0_write cX0_write 6 none 5 := ⟨im_X0_write, se_X0_write, in_X0, co_X0_write, by decide, by decide, by decide +kernel⟩
set_option maxRecDepth 100000 in
set_option maxHeartbeats 4000000 in
theorem ct_X0_write (l : Launch) (G : EN) (A : Nat → Nat) (σ : SC) (sz : Nat) (a1 : Int32) (a2 : Int32) (a3 : Int32) (a4 : Int32) (a5 : Int32) {σ0 : SC} (h : f_X0_write σ a1 a2 a3 a4 a5 = some σ0) : CT l yX0_write cX0_write 6 none rmX0_write G sz [.ref (A 1), .int a1, .int a2, .int a3, .int a4, .int a5] (wC G A σ) (QV G (va_A (wC G A σ) sz) (wC G A σ0)) := by
  unfold f_X0_write at h
  refine CV.intro (lv := [(0, .ref (A 1)), (1, .int a1), (2, .int a2), (3, .int a3), (4, .int a4), (5, .int a5)]) (by decide) (Nat.le_of_ble_eq_true rfl) rfl ?_
  intro p e s m args below meth c Q B S hret H locs ls hW hl
  have hx := S.1
  have hb := S.2.1
  refine lv_iload_n hx hb dX0_write_0 rfl (lv_at hl 1 rfl) ?_
  refine bz_lt (tgt := 10) hx hb h dX0_write_1 (by decide) (fun _ h => ?_) (fun _ h => ?_)
  · exact ret_vs (wf := wC G A) hret h hW dX0_write_10
  · refine lv_iload_n hx hb dX0_write_4 rfl (lv_at hl 1 rfl) ?_
    refine lv_bipush (v := 24) hx hb dX0_write_5 (by decide) ?_
    refine bc_lt (tgt := 11) hx hb h dX0_write_7 (by decide) (fun _ h => ?_) (fun _ h => ?_)
    · refine lv_aload_n hx hb dX0_write_11 rfl (lv_at hl 0 rfl) ?_
      refine gC_X0_needs S hW lk_X0_9 dX0_write_12 ?_
      refine lv_iload_n hx hb dX0_write_15 rfl (lv_at hl 1 rfl) ?_
      refine lv_iload_n hx hb dX0_write_16 rfl (lv_at hl 2 rfl) ?_
      refine sC_2 S hW h dX0_write_17 (fun σ1 H locs eσ1 _ h hW => ?_)
      have h := lt_at eσ1 h
      refine lv_aload_n hx hb dX0_write_18 rfl (lv_at hl 0 rfl) ?_
      refine gC_X0_makes S hW lk_X0_15 dX0_write_19 ?_
      refine lv_iload_n hx hb dX0_write_22 rfl (lv_at hl 1 rfl) ?_
      refine lv_iload_n hx hb dX0_write_23 rfl (lv_at hl 3 rfl) ?_
      refine sC_3 S hW h dX0_write_24 (fun σ2 H locs eσ2 _ h hW => ?_)
      have h := lt_at eσ2 h
      refine lv_aload_n hx hb dX0_write_25 rfl (lv_at hl 0 rfl) ?_
      refine gC_X0_undoes S hW lk_X0_18 dX0_write_26 ?_
      refine lv_iload_n hx hb dX0_write_29 rfl (lv_at hl 1 rfl) ?_
      refine lv_iload hx hb dX0_write_30 (lv_at hl 4 rfl) ?_
      refine sC_4 S hW h dX0_write_32 (fun σ3 H locs eσ3 _ h hW => ?_)
      have h := lt_at eσ3 h
      refine lv_aload_n hx hb dX0_write_33 rfl (lv_at hl 0 rfl) ?_
      refine gC_X0_costs S hW lk_X0_21 dX0_write_34 ?_
      refine lv_iload_n hx hb dX0_write_37 rfl (lv_at hl 1 rfl) ?_
      refine lv_iload hx hb dX0_write_38 (lv_at hl 5 rfl) ?_
      refine sC_5 S hW h dX0_write_40 (fun σ4 H locs eσ4 _ h hW => ?_)
      have h := lt_at eσ4 h
      refine lv_aload_n hx hb dX0_write_41 rfl (lv_at hl 0 rfl) ?_
      refine gC_X0_kinds S hW lk_X0_24 dX0_write_42 ?_
      refine lv_iload_n hx hb dX0_write_45 rfl (lv_at hl 1 rfl) ?_
      refine lv_iconst (v := 0) hx hb dX0_write_46 (by decide) ?_
      refine sC_6 S hW h dX0_write_47 (fun σ5 H locs eσ5 _ h hW => ?_)
      have h := lt_at eσ5 h
      refine lv_aload_n hx hb dX0_write_48 rfl (lv_at hl 0 rfl) ?_
      refine gC_X0_firsts S hW lk_X0_27 dX0_write_49 ?_
      refine lv_iload_n hx hb dX0_write_52 rfl (lv_at hl 1 rfl) ?_
      refine lv_iconst (v := (-1)) hx hb dX0_write_53 (by decide) ?_
      refine sC_7 S hW h dX0_write_54 (fun σ6 H locs eσ6 _ h hW => ?_)
      have h := lt_at eσ6 h
      refine lv_aload_n hx hb dX0_write_55 rfl (lv_at hl 0 rfl) ?_
      refine gC_X0_seconds S hW lk_X0_30 dX0_write_56 ?_
      refine lv_iload_n hx hb dX0_write_59 rfl (lv_at hl 1 rfl) ?_
      refine lv_iconst (v := (-1)) hx hb dX0_write_60 (by decide) ?_
      refine sC_8 S hW h dX0_write_61 (fun σ7 H locs eσ7 _ h hW => ?_)
      have h := lt_at eσ7 h
      refine lv_aload_n hx hb dX0_write_62 rfl (lv_at hl 0 rfl) ?_
      refine gC_X0_plainParts S hW lk_X0_33 dX0_write_63 ?_
      refine lv_iload_n hx hb dX0_write_66 rfl (lv_at hl 1 rfl) ?_
      refine lv_iconst (v := 1) hx hb dX0_write_67 (by decide) ?_
      refine sC_9 S hW h dX0_write_68 (fun σ8 H locs eσ8 _ h hW => ?_)
      have h := lt_at eσ8 h
      exact ret_vs (wf := wC G A) hret h hW dX0_write_69
    · exact ret_vs (wf := wC G A) hret h hW dX0_write_10
def rmX0_canJoin : Room := { frames := 0, cells := 0, slots := 0, locals := 0 }
def f_X0_canJoin (σ : SC) (a1 : Int32) (a2 : Int32) : Option Int32 := ld (ga σ 2) 24 a1 (fun v1 => ld (ga σ 1) 24 a1 (fun v2 => ld (ga σ 0) 24 a2 (fun v3 => if ((v1 &&& (v2 ^^^ (-1))) &&& v3) = 0 then ld (ga σ 3) 24 a1 (fun v4 => ld (ga σ 3) 24 a2 (fun v5 => if 99 < (v4 + v5) then some 0 else some 1)) else some 0)))
theorem mi_X0_canJoin : MI yX0_canJoin cX0_canJoin 3 (some .boolean) 2 := ⟨im_X0_canJoin, se_X0_canJoin, in_X0, co_X0_canJoin, by decide, by decide, by decide +kernel⟩
set_option maxRecDepth 100000 in
set_option maxHeartbeats 4000000 in
theorem ct_X0_canJoin (l : Launch) (G : EN) (A : Nat → Nat) (σ : SC) (sz : Nat) (a1 : Int32) (a2 : Int32) {r0 : Int32} (h : f_X0_canJoin σ a1 a2 = some r0) : CT l yX0_canJoin cX0_canJoin 3 (some .boolean) rmX0_canJoin G sz [.ref (A 1), .int a1, .int a2] (wC G A σ) (QI G (va_A (wC G A σ) sz) r0 (wC G A σ)) := by
  unfold f_X0_canJoin at h
  refine CI.intro (lv := [(0, .ref (A 1)), (1, .int a1), (2, .int a2)]) (by decide) (Nat.le_of_ble_eq_true rfl) rfl ?_
  intro p e s m args below meth c Q B S hret H locs ls hW hl
  have hx := S.1
  have hb := S.2.1
  refine lv_aload_n hx hb dX0_canJoin_0 rfl (lv_at hl 0 rfl) ?_
  refine gC_X0_undoes S hW lk_X0_18 dX0_canJoin_1 ?_
  refine lv_iload_n hx hb dX0_canJoin_4 rfl (lv_at hl 1 rfl) ?_
  refine aC_4 S hW h dX0_canJoin_5 (fun v1 _ h => ?_)
  refine lv_aload_n hx hb dX0_canJoin_6 rfl (lv_at hl 0 rfl) ?_
  refine gC_X0_makes S hW lk_X0_15 dX0_canJoin_7 ?_
  refine lv_iload_n hx hb dX0_canJoin_10 rfl (lv_at hl 1 rfl) ?_
  refine aC_3 S hW h dX0_canJoin_11 (fun v2 _ h => ?_)
  refine lv_iconst (v := (-1)) hx hb dX0_canJoin_12 (by decide) ?_
  refine lv_ixor hx hb dX0_canJoin_13 ?_
  refine lv_iand hx hb dX0_canJoin_14 ?_
  refine lv_aload_n hx hb dX0_canJoin_15 rfl (lv_at hl 0 rfl) ?_
  refine gC_X0_needs S hW lk_X0_9 dX0_canJoin_16 ?_
  refine lv_iload_n hx hb dX0_canJoin_19 rfl (lv_at hl 2 rfl) ?_
  refine aC_2 S hW h dX0_canJoin_20 (fun v3 _ h => ?_)
  refine lv_iand hx hb dX0_canJoin_21 ?_
  refine bz_ne (tgt := 47) hx hb h dX0_canJoin_22 (by decide) (fun _ h => ?_) (fun _ h => ?_)
  · refine lv_aload_n hx hb dX0_canJoin_25 rfl (lv_at hl 0 rfl) ?_
    refine gC_X0_costs S hW lk_X0_21 dX0_canJoin_26 ?_
    refine lv_iload_n hx hb dX0_canJoin_29 rfl (lv_at hl 1 rfl) ?_
    refine aC_5 S hW h dX0_canJoin_30 (fun v4 _ h => ?_)
    refine lv_aload_n hx hb dX0_canJoin_31 rfl (lv_at hl 0 rfl) ?_
    refine gC_X0_costs S hW lk_X0_21 dX0_canJoin_32 ?_
    refine lv_iload_n hx hb dX0_canJoin_35 rfl (lv_at hl 2 rfl) ?_
    refine aC_5 S hW h dX0_canJoin_36 (fun v5 _ h => ?_)
    refine lv_iadd hx hb dX0_canJoin_37 ?_
    refine lv_bipush (v := 99) hx hb dX0_canJoin_38 (by decide) ?_
    refine bc_gt (tgt := 47) hx hb h dX0_canJoin_40 (by decide) (fun _ h => ?_) (fun _ h => ?_)
    · refine lv_iconst (v := 0) hx hb dX0_canJoin_47 (by decide) ?_
      exact hret H locs _ ls _ (Option.some.inj h) (nar_z (Or.inl rfl)) hW dX0_canJoin_48
    · refine lv_iconst (v := 1) hx hb dX0_canJoin_43 (by decide) ?_
      refine lv_goto (tgt := 48) hx hb dX0_canJoin_44 (by decide) ?_
      exact hret H locs _ ls _ (Option.some.inj h) (nar_z (Or.inr rfl)) hW dX0_canJoin_48
  · refine lv_iconst (v := 0) hx hb dX0_canJoin_47 (by decide) ?_
    exact hret H locs _ ls _ (Option.some.inj h) (nar_z (Or.inl rfl)) hW dX0_canJoin_48
def rmX0_writeJoined : Room := { frames := 1, cells := 0, slots := 0, locals := 25 }
def f_X0_writeJoined (σ : SC) (a1 : Int32) (a2 : Int32) (a3 : Int32) : Option SC := if a1 < 0 then some σ else if a1 < 24 then ld (ga σ 0) 24 a2 (fun v1 => ld (ga σ 0) 24 a3 (fun v2 => ld (ga σ 1) 24 a2 (fun v3 => lt (v1 ||| (v2 &&& (v3 ^^^ (-1)))) (fun v4 => ld (ga σ 1) 24 a2 (fun v5 => ld (ga σ 2) 24 a3 (fun v6 => ld (ga σ 1) 24 a3 (fun v7 => lt ((v5 &&& (v6 ^^^ (-1))) ||| v7) (fun v8 => ld (ga σ 2) 24 a2 (fun v9 => ld (ga σ 1) 24 a3 (fun v10 => ld (ga σ 2) 24 a3 (fun v11 => lt ((v9 &&& (v10 ^^^ (-1))) ||| v11) (fun v12 => ld (ga σ 3) 24 a2 (fun v13 => ld (ga σ 3) 24 a3 (fun v14 => bd (f_X0_write σ a1 v4 v8 v12 (v13 + v14)) (fun σ16 => ld (ga σ16 4) 24 a2 (fun v17 => jn (fun (u19 : Int32) => jn (fun (u21 : Int32) => ck 24 a1 (lt (sa σ16 4 (upd (ga σ16 4) a1.toNatClampNeg u21)) (fun σ22 => ck 24 a1 (lt (sa σ22 5 (upd (ga σ22 5) a1.toNatClampNeg a2)) (fun σ23 => ck 24 a1 (lt (sa σ23 6 (upd (ga σ23 6) a1.toNatClampNeg a3)) (fun σ24 => ld (ga σ24 7) 24 a2 (fun v25 => ld (ga σ24 7) 24 a3 (fun v26 => ck 24 a1 (lt (sa σ24 7 (upd (ga σ24 7) a1.toNatClampNeg (v25 + v26))) (fun σ27 => some σ27))))))))))) (fun J20 => if u19 = 0 then J20 2 else J20 1)) (fun J18 => if v17 = 0 then ld (ga σ16 4) 24 a3 (fun v28 => if v28 = 0 then J18 1 else J18 0) else J18 0))))))))))))))))) else some σ
theorem mi_X0_writeJoined : MI yX0_writeJoined cX0_writeJoined 8 none 3 := ⟨im_X0_writeJoined, se_X0_writeJoined, in_X0, co_X0_writeJoined, by decide, by decide, by decide +kernel⟩
set_option maxRecDepth 100000 in
set_option maxHeartbeats 4000000 in
theorem ct_X0_writeJoined (l : Launch) (G : EN) (A : Nat → Nat) (σ : SC) (sz : Nat) (a1 : Int32) (a2 : Int32) (a3 : Int32) {σ0 : SC} (h : f_X0_writeJoined σ a1 a2 a3 = some σ0) : CT l yX0_writeJoined cX0_writeJoined 8 none rmX0_writeJoined G sz [.ref (A 1), .int a1, .int a2, .int a3] (wC G A σ) (QV G (va_A (wC G A σ) sz) (wC G A σ0)) := by
  unfold f_X0_writeJoined at h
  refine CV.intro (lv := [(0, .ref (A 1)), (1, .int a1), (2, .int a2), (3, .int a3)]) (by decide) (Nat.le_of_ble_eq_true rfl) rfl ?_
  intro p e s m args below meth c Q B S hret H locs ls hW hl
  have hx := S.1
  have hb := S.2.1
  refine lv_iload_n hx hb dX0_writeJoined_0 rfl (lv_at hl 1 rfl) ?_
  refine bz_lt (tgt := 10) hx hb h dX0_writeJoined_1 (by decide) (fun _ h => ?_) (fun _ h => ?_)
  · exact ret_vs (wf := wC G A) hret h hW dX0_writeJoined_10
  · refine lv_iload_n hx hb dX0_writeJoined_4 rfl (lv_at hl 1 rfl) ?_
    refine lv_bipush (v := 24) hx hb dX0_writeJoined_5 (by decide) ?_
    refine bc_lt (tgt := 11) hx hb h dX0_writeJoined_7 (by decide) (fun _ h => ?_) (fun _ h => ?_)
    · refine lv_aload_n hx hb dX0_writeJoined_11 rfl (lv_at hl 0 rfl) ?_
      refine gC_X0_needs S hW lk_X0_9 dX0_writeJoined_12 ?_
      refine lv_iload_n hx hb dX0_writeJoined_15 rfl (lv_at hl 2 rfl) ?_
      refine aC_2 S hW h dX0_writeJoined_16 (fun v1 _ h => ?_)
      refine lv_aload_n hx hb dX0_writeJoined_17 rfl (lv_at hl 0 rfl) ?_
      refine gC_X0_needs S hW lk_X0_9 dX0_writeJoined_18 ?_
      refine lv_iload_n hx hb dX0_writeJoined_21 rfl (lv_at hl 3 rfl) ?_
      refine aC_2 S hW h dX0_writeJoined_22 (fun v2 _ h => ?_)
      refine lv_aload_n hx hb dX0_writeJoined_23 rfl (lv_at hl 0 rfl) ?_
      refine gC_X0_makes S hW lk_X0_15 dX0_writeJoined_24 ?_
      refine lv_iload_n hx hb dX0_writeJoined_27 rfl (lv_at hl 2 rfl) ?_
      refine aC_3 S hW h dX0_writeJoined_28 (fun v3 _ h => ?_)
      refine lv_iconst (v := (-1)) hx hb dX0_writeJoined_29 (by decide) ?_
      refine lv_ixor hx hb dX0_writeJoined_30 ?_
      refine lv_iand hx hb dX0_writeJoined_31 ?_
      refine lv_ior hx hb dX0_writeJoined_32 ?_
      refine nm_i h (fun v4 h => ?_)
      refine lv_istore (lv' := [(4, .int v4), (0, .ref (A 1)), (1, .int a1), (2, .int a2), (3, .int a3)]) hx hb dX0_writeJoined_33 hl (by decide) rfl (fun ls hl => ?_)
      refine lv_aload_n hx hb dX0_writeJoined_35 rfl (lv_at hl 1 rfl) ?_
      refine gC_X0_makes S hW lk_X0_15 dX0_writeJoined_36 ?_
      refine lv_iload_n hx hb dX0_writeJoined_39 rfl (lv_at hl 3 rfl) ?_
      refine aC_3 S hW h dX0_writeJoined_40 (fun v5 _ h => ?_)
      refine lv_aload_n hx hb dX0_writeJoined_41 rfl (lv_at hl 1 rfl) ?_
      refine gC_X0_undoes S hW lk_X0_18 dX0_writeJoined_42 ?_
      refine lv_iload_n hx hb dX0_writeJoined_45 rfl (lv_at hl 4 rfl) ?_
      refine aC_4 S hW h dX0_writeJoined_46 (fun v6 _ h => ?_)
      refine lv_iconst (v := (-1)) hx hb dX0_writeJoined_47 (by decide) ?_
      refine lv_ixor hx hb dX0_writeJoined_48 ?_
      refine lv_iand hx hb dX0_writeJoined_49 ?_
      refine lv_aload_n hx hb dX0_writeJoined_50 rfl (lv_at hl 1 rfl) ?_
      refine gC_X0_makes S hW lk_X0_15 dX0_writeJoined_51 ?_
      refine lv_iload_n hx hb dX0_writeJoined_54 rfl (lv_at hl 4 rfl) ?_
      refine aC_3 S hW h dX0_writeJoined_55 (fun v7 _ h => ?_)
      refine lv_ior hx hb dX0_writeJoined_56 ?_
      refine nm_i h (fun v8 h => ?_)
      refine lv_istore (lv' := [(5, .int v8), (4, .int v4), (0, .ref (A 1)), (1, .int a1), (2, .int a2), (3, .int a3)]) hx hb dX0_writeJoined_57 hl (by decide) rfl (fun ls hl => ?_)
      refine lv_aload_n hx hb dX0_writeJoined_59 rfl (lv_at hl 2 rfl) ?_
      refine gC_X0_undoes S hW lk_X0_18 dX0_writeJoined_60 ?_
      refine lv_iload_n hx hb dX0_writeJoined_63 rfl (lv_at hl 4 rfl) ?_
      refine aC_4 S hW h dX0_writeJoined_64 (fun v9 _ h => ?_)
      refine lv_aload_n hx hb dX0_writeJoined_65 rfl (lv_at hl 2 rfl) ?_
      refine gC_X0_makes S hW lk_X0_15 dX0_writeJoined_66 ?_
      refine lv_iload_n hx hb dX0_writeJoined_69 rfl (lv_at hl 5 rfl) ?_
      refine aC_3 S hW h dX0_writeJoined_70 (fun v10 _ h => ?_)
      refine lv_iconst (v := (-1)) hx hb dX0_writeJoined_71 (by decide) ?_
      refine lv_ixor hx hb dX0_writeJoined_72 ?_
      refine lv_iand hx hb dX0_writeJoined_73 ?_
      refine lv_aload_n hx hb dX0_writeJoined_74 rfl (lv_at hl 2 rfl) ?_
      refine gC_X0_undoes S hW lk_X0_18 dX0_writeJoined_75 ?_
      refine lv_iload_n hx hb dX0_writeJoined_78 rfl (lv_at hl 5 rfl) ?_
      refine aC_4 S hW h dX0_writeJoined_79 (fun v11 _ h => ?_)
      refine lv_ior hx hb dX0_writeJoined_80 ?_
      refine nm_i h (fun v12 h => ?_)
      refine lv_istore (lv' := [(6, .int v12), (5, .int v8), (4, .int v4), (0, .ref (A 1)), (1, .int a1), (2, .int a2), (3, .int a3)]) hx hb dX0_writeJoined_81 hl (by decide) rfl (fun ls hl => ?_)
      refine lv_aload_n hx hb dX0_writeJoined_83 rfl (lv_at hl 3 rfl) ?_
      refine lv_iload_n hx hb dX0_writeJoined_84 rfl (lv_at hl 4 rfl) ?_
      refine lv_iload hx hb dX0_writeJoined_85 (lv_at hl 2 rfl) ?_
      refine lv_iload hx hb dX0_writeJoined_87 (lv_at hl 1 rfl) ?_
      refine lv_iload hx hb dX0_writeJoined_89 (lv_at hl 0 rfl) ?_
      refine lv_aload_n hx hb dX0_writeJoined_91 rfl (lv_at hl 3 rfl) ?_
      refine gC_X0_costs S hW lk_X0_21 dX0_writeJoined_92 ?_
      refine lv_iload_n hx hb dX0_writeJoined_95 rfl (lv_at hl 5 rfl) ?_
      refine aC_5 S hW h dX0_writeJoined_96 (fun v13 _ h => ?_)
      refine lv_aload_n hx hb dX0_writeJoined_97 rfl (lv_at hl 3 rfl) ?_
      refine gC_X0_costs S hW lk_X0_21 dX0_writeJoined_98 ?_
      refine lv_iload_n hx hb dX0_writeJoined_101 rfl (lv_at hl 6 rfl) ?_
      refine aC_5 S hW h dX0_writeJoined_102 (fun v14 _ h => ?_)
      refine lv_iadd hx hb dX0_writeJoined_103 ?_
      obtain ⟨σ16, h15, h⟩ := bd_o h
      refine back_v (rest := []) hW (run_V S hW (ct_X0_write l G A σ _ a1 v4 v8 v12 (v13 + v14) h15) mi_X0_write lk_X0_40 (eC_1 G A σ) rfl rfl rfl hl (Nat.le_of_ble_eq_true rfl) dX0_writeJoined_104 ⟨Nat.le_of_ble_eq_true rfl, Nat.le_of_ble_eq_true rfl⟩ rfl rfl) (fun H locs hW => ?_)
      refine lv_aload_n hx hb dX0_writeJoined_107 rfl (lv_at hl 3 rfl) ?_
      refine gC_X0_kinds S hW lk_X0_24 dX0_writeJoined_108 ?_
      refine lv_iload_n hx hb dX0_writeJoined_111 rfl (lv_at hl 5 rfl) ?_
      refine aC_6 S hW h dX0_writeJoined_112 (fun v17 _ h => ?_)
      obtain ⟨J18, eJ18, h⟩ := jn_o h
      have hJ18 : ∀ (u19 : Int32)  (H : Heap) (locs : List Loc) (ls : Array Slot), WS G B s (wC G A σ16) H locs → lv_has ls 8 [(0, .ref (A 1)), (1, .int a1), (2, .int a2), (3, .int a3)] → J18 u19 = some σ0 → W p l e rmX0_writeJoined s m args below meth c H locs 0 0 Q (F0 m 130 ls [.int u19]) := by
        subst eJ18
        intro u19 H locs ls hW hl h
        refine lv_istore (lv' := [(7, .int u19), (0, .ref (A 1)), (1, .int a1), (2, .int a2), (3, .int a3)]) hx hb dX0_writeJoined_130 hl (by decide) rfl (fun ls hl => ?_)
        refine lv_aload_n hx hb dX0_writeJoined_132 rfl (lv_at hl 1 rfl) ?_
        refine gC_X0_kinds S hW lk_X0_24 dX0_writeJoined_133 ?_
        refine lv_iload_n hx hb dX0_writeJoined_136 rfl (lv_at hl 2 rfl) ?_
        refine lv_iload hx hb dX0_writeJoined_137 (lv_at hl 0 rfl) ?_
        obtain ⟨J20, eJ20, h⟩ := jn_o h
        have hJ20 : ∀ (u21 : Int32)  (H : Heap) (locs : List Loc) (ls : Array Slot), WS G B s (wC G A σ16) H locs → lv_has ls 8 [(0, .ref (A 1)), (1, .int a1), (2, .int a2), (3, .int a3)] → J20 u21 = some σ0 → W p l e rmX0_writeJoined s m args below meth c H locs 0 0 Q (F0 m 147 ls [.int u21, .int a1, .ref (A 6)]) := by
          subst eJ20
          intro u21 H locs ls hW hl h
          refine sC_6 S hW h dX0_writeJoined_147 (fun σ22 H locs eσ22 _ h hW => ?_)
          have h := lt_at eσ22 h
          refine lv_aload_n hx hb dX0_writeJoined_148 rfl (lv_at hl 0 rfl) ?_
          refine gC_X0_firsts S hW lk_X0_27 dX0_writeJoined_149 ?_
          refine lv_iload_n hx hb dX0_writeJoined_152 rfl (lv_at hl 1 rfl) ?_
          refine lv_iload_n hx hb dX0_writeJoined_153 rfl (lv_at hl 2 rfl) ?_
          refine sC_7 S hW h dX0_writeJoined_154 (fun σ23 H locs eσ23 _ h hW => ?_)
          have h := lt_at eσ23 h
          refine lv_aload_n hx hb dX0_writeJoined_155 rfl (lv_at hl 0 rfl) ?_
          refine gC_X0_seconds S hW lk_X0_30 dX0_writeJoined_156 ?_
          refine lv_iload_n hx hb dX0_writeJoined_159 rfl (lv_at hl 1 rfl) ?_
          refine lv_iload_n hx hb dX0_writeJoined_160 rfl (lv_at hl 3 rfl) ?_
          refine sC_8 S hW h dX0_writeJoined_161 (fun σ24 H locs eσ24 _ h hW => ?_)
          have h := lt_at eσ24 h
          refine lv_aload_n hx hb dX0_writeJoined_162 rfl (lv_at hl 0 rfl) ?_
          refine gC_X0_plainParts S hW lk_X0_33 dX0_writeJoined_163 ?_
          refine lv_iload_n hx hb dX0_writeJoined_166 rfl (lv_at hl 1 rfl) ?_
          refine lv_aload_n hx hb dX0_writeJoined_167 rfl (lv_at hl 0 rfl) ?_
          refine gC_X0_plainParts S hW lk_X0_33 dX0_writeJoined_168 ?_
          refine lv_iload_n hx hb dX0_writeJoined_171 rfl (lv_at hl 2 rfl) ?_
          refine aC_9 S hW h dX0_writeJoined_172 (fun v25 _ h => ?_)
          refine lv_aload_n hx hb dX0_writeJoined_173 rfl (lv_at hl 0 rfl) ?_
          refine gC_X0_plainParts S hW lk_X0_33 dX0_writeJoined_174 ?_
          refine lv_iload_n hx hb dX0_writeJoined_177 rfl (lv_at hl 3 rfl) ?_
          refine aC_9 S hW h dX0_writeJoined_178 (fun v26 _ h => ?_)
          refine lv_iadd hx hb dX0_writeJoined_179 ?_
          refine sC_9 S hW h dX0_writeJoined_180 (fun σ27 H locs eσ27 _ h hW => ?_)
          have h := lt_at eσ27 h
          exact ret_vs (wf := wC G A) hret h hW dX0_writeJoined_181
        clear eJ20
        refine bz_eq (tgt := 146) hx hb h dX0_writeJoined_139 (by decide) (fun _ h => ?_) (fun _ h => ?_)
        · refine lv_iconst (v := 2) hx hb dX0_writeJoined_146 (by decide) ?_
          exact hJ20 2 _ _ _ hW (lv_sub hl [1, 2, 3, 4] rfl) h
        · refine lv_iconst (v := 1) hx hb dX0_writeJoined_142 (by decide) ?_
          refine lv_goto (tgt := 147) hx hb dX0_writeJoined_143 (by decide) ?_
          exact hJ20 1 _ _ _ hW (lv_sub hl [1, 2, 3, 4] rfl) h
      clear eJ18
      refine bz_ne (tgt := 129) hx hb h dX0_writeJoined_113 (by decide) (fun _ h => ?_) (fun _ h => ?_)
      · refine lv_aload_n hx hb dX0_writeJoined_116 rfl (lv_at hl 3 rfl) ?_
        refine gC_X0_kinds S hW lk_X0_24 dX0_writeJoined_117 ?_
        refine lv_iload_n hx hb dX0_writeJoined_120 rfl (lv_at hl 6 rfl) ?_
        refine aC_6 S hW h dX0_writeJoined_121 (fun v28 _ h => ?_)
        refine bz_ne (tgt := 129) hx hb h dX0_writeJoined_122 (by decide) (fun _ h => ?_) (fun _ h => ?_)
        · refine lv_iconst (v := 1) hx hb dX0_writeJoined_125 (by decide) ?_
          refine lv_goto (tgt := 130) hx hb dX0_writeJoined_126 (by decide) ?_
          exact hJ18 1 _ _ _ hW (lv_sub hl [3, 4, 5, 6] rfl) h
        · refine lv_iconst (v := 0) hx hb dX0_writeJoined_129 (by decide) ?_
          exact hJ18 0 _ _ _ hW (lv_sub hl [3, 4, 5, 6] rfl) h
      · refine lv_iconst (v := 0) hx hb dX0_writeJoined_129 (by decide) ?_
        exact hJ18 0 _ _ _ hW (lv_sub hl [3, 4, 5, 6] rfl) h
    · exact ret_vs (wf := wC G A) hret h hW dX0_writeJoined_10
def rmX0_isAllowed : Room := { frames := 0, cells := 0, slots := 0, locals := 0 }
def f_X0_isAllowed (σ : SC) (a1 : Int32) (a2 : Int32) : Option Int32 := ld (ga σ 0) 24 a2 (fun v1 => if (v1 &&& (a1 ^^^ (-1))) = 0 then some 1 else some 0)
theorem mi_X0_isAllowed : MI yX0_isAllowed cX0_isAllowed 3 (some .boolean) 2 := ⟨im_X0_isAllowed, se_X0_isAllowed, in_X0, co_X0_isAllowed, by decide, by decide, by decide +kernel⟩
set_option maxRecDepth 100000 in
set_option maxHeartbeats 4000000 in
theorem ct_X0_isAllowed (l : Launch) (G : EN) (A : Nat → Nat) (σ : SC) (sz : Nat) (a1 : Int32) (a2 : Int32) {r0 : Int32} (h : f_X0_isAllowed σ a1 a2 = some r0) : CT l yX0_isAllowed cX0_isAllowed 3 (some .boolean) rmX0_isAllowed G sz [.ref (A 1), .int a1, .int a2] (wC G A σ) (QI G (va_A (wC G A σ) sz) r0 (wC G A σ)) := by
  unfold f_X0_isAllowed at h
  refine CI.intro (lv := [(0, .ref (A 1)), (1, .int a1), (2, .int a2)]) (by decide) (Nat.le_of_ble_eq_true rfl) rfl ?_
  intro p e s m args below meth c Q B S hret H locs ls hW hl
  have hx := S.1
  have hb := S.2.1
  refine lv_aload_n hx hb dX0_isAllowed_0 rfl (lv_at hl 0 rfl) ?_
  refine gC_X0_needs S hW lk_X0_9 dX0_isAllowed_1 ?_
  refine lv_iload_n hx hb dX0_isAllowed_4 rfl (lv_at hl 2 rfl) ?_
  refine aC_2 S hW h dX0_isAllowed_5 (fun v1 _ h => ?_)
  refine lv_iload_n hx hb dX0_isAllowed_6 rfl (lv_at hl 1 rfl) ?_
  refine lv_iconst (v := (-1)) hx hb dX0_isAllowed_7 (by decide) ?_
  refine lv_ixor hx hb dX0_isAllowed_8 ?_
  refine lv_iand hx hb dX0_isAllowed_9 ?_
  refine bz_ne (tgt := 17) hx hb h dX0_isAllowed_10 (by decide) (fun _ h => ?_) (fun _ h => ?_)
  · refine lv_iconst (v := 1) hx hb dX0_isAllowed_13 (by decide) ?_
    refine lv_goto (tgt := 18) hx hb dX0_isAllowed_14 (by decide) ?_
    exact hret H locs _ ls _ (Option.some.inj h) (nar_z (Or.inr rfl)) hW dX0_isAllowed_18
  · refine lv_iconst (v := 0) hx hb dX0_isAllowed_17 (by decide) ?_
    exact hret H locs _ ls _ (Option.some.inj h) (nar_z (Or.inl rfl)) hW dX0_isAllowed_18
def rmX0_allowedIn : Room := { frames := 1, cells := 0, slots := 0, locals := 22 }
def LX0_allowedIn_4 (σ : SC) (y1 : Int32) (K : Int32 → Option Int32) : Nat → Int32 → Int32 → Option Int32
  | 0, _, _ => none
  | k + 1, y2, y3 => if (gi σ 6) ≤ y3 then K y2 else bd (f_X0_isAllowed σ y1 y3) (fun v2 => if v2 = 0 then lt (y3 + 1) (fun v3 => LX0_allowedIn_4 σ y1 K k y2 v3) else lt (y2 ||| (1 <<< (y3 &&& 31))) (fun v4 => lt (y3 + 1) (fun v5 => LX0_allowedIn_4 σ y1 K k v4 v5)))
def f_X0_allowedIn (n : Nat) (σ : SC) (a1 : Int32) : Option Int32 := LX0_allowedIn_4 σ a1 (fun w6 => some w6) n 0 0
theorem mi_X0_allowedIn : MI yX0_allowedIn cX0_allowedIn 4 (some .int) 1 := ⟨im_X0_allowedIn, se_X0_allowedIn, in_X0, co_X0_allowedIn, by decide, by decide, by decide +kernel⟩
set_option maxRecDepth 100000 in
set_option maxHeartbeats 4000000 in
theorem ct_X0_allowedIn (l : Launch) (n : Nat) (G : EN) (A : Nat → Nat) (σ : SC) (sz : Nat) (a1 : Int32) {r0 : Int32} (h : f_X0_allowedIn n σ a1 = some r0) : CT l yX0_allowedIn cX0_allowedIn 4 (some .int) rmX0_allowedIn G sz [.ref (A 1), .int a1] (wC G A σ) (QI G (va_A (wC G A σ) sz) r0 (wC G A σ)) := by
  unfold f_X0_allowedIn at h
  refine CI.intro (lv := [(0, .ref (A 1)), (1, .int a1)]) (by decide) (Nat.le_of_ble_eq_true rfl) rfl ?_
  intro p e s m args below meth c Q B S hret H locs ls hW hl
  have hx := S.1
  have hb := S.2.1
  refine lv_iconst (v := 0) hx hb dX0_allowedIn_0 (by decide) ?_
  refine lv_istore_n (lv' := [(2, .int 0), (0, .ref (A 1)), (1, .int a1)]) hx hb dX0_allowedIn_1 rfl hl (by decide) rfl (fun ls hl => ?_)
  refine lv_iconst (v := 0) hx hb dX0_allowedIn_2 (by decide) ?_
  refine lv_istore_n (lv' := [(3, .int 0), (2, .int 0), (0, .ref (A 1)), (1, .int a1)]) hx hb dX0_allowedIn_3 rfl hl (by decide) rfl (fun ls hl => ?_)
  have hL4 : ∀ (y1 : Int32) (K : Int32 → Option Int32), (∀ (z2 : Int32) (H : Heap) (locs : List Loc) (ls : Array Slot), WS G B s (wC G A σ) H locs → lv_has ls 4 [(2, .int z2)] → K z2 = some r0 → W p l e rmX0_allowedIn s m args below meth c H locs 0 0 Q (F0 m 33 ls [])) → ∀ (k : Nat)  (y2 : Int32) (y3 : Int32)  (H : Heap) (locs : List Loc) (ls : Array Slot), WS G B s (wC G A σ) H locs → lv_has ls 4 [(0, .ref (A 1)), (1, .int y1), (2, .int y2), (3, .int y3)] → LX0_allowedIn_4 σ y1 K k y2 y3 = some r0 → W p l e rmX0_allowedIn s m args below meth c H locs 0 0 Q (F0 m 4 ls []) := by
    intro y1 K hK k
    induction k with
    | zero => intro y2 y3 H locs ls hW hl h; rw [LX0_allowedIn_4] at h; cases h
    | succ k ih =>
      intro y2 y3 H locs ls hW hl h
      rw [LX0_allowedIn_4] at h
      refine lv_iload_n hx hb dX0_allowedIn_4 rfl (lv_at hl 3 rfl) ?_
      refine lv_aload_n hx hb dX0_allowedIn_5 rfl (lv_at hl 0 rfl) ?_
      refine gC_X0_count S hW lk_X0_36 dX0_allowedIn_6 ?_
      refine bc_ge (tgt := 33) hx hb h dX0_allowedIn_9 (by decide) (fun _ h => ?_) (fun _ h => ?_)
      · exact hK y2 _ _ _ hW (lv_sub hl [2] rfl) h
      · refine lv_aload_n hx hb dX0_allowedIn_12 rfl (lv_at hl 0 rfl) ?_
        refine lv_iload_n hx hb dX0_allowedIn_13 rfl (lv_at hl 1 rfl) ?_
        refine lv_iload_n hx hb dX0_allowedIn_14 rfl (lv_at hl 3 rfl) ?_
        obtain ⟨v2, h1, h⟩ := bd_o h
        refine back_i (rest := []) hW (run_V S hW (ct_X0_isAllowed l G A σ _ y1 y3 h1) mi_X0_isAllowed lk_X0_44 (eC_1 G A σ) rfl rfl rfl hl (Nat.le_of_ble_eq_true rfl) dX0_allowedIn_15 ⟨Nat.le_of_ble_eq_true rfl, Nat.le_of_ble_eq_true rfl⟩ rfl rfl) (fun H locs hW => ?_)
        refine bz_eq (tgt := 27) hx hb h dX0_allowedIn_18 (by decide) (fun _ h => ?_) (fun _ h => ?_)
        · refine w_iinc (lv' := [(0, .ref (A 1)), (1, .int y1), (2, .int y2)]) hx hb dX0_allowedIn_27 hl (k := 3) rfl (by decide) (by decide) rfl h (fun v3 ls hl h => ?_)
          refine lv_goto (tgt := 4) hx hb dX0_allowedIn_30 (by decide) ?_
          exact ih y2 v3 _ _ _ hW (lv_sub hl [1, 2, 3, 0] rfl) h
        · refine lv_iload_n hx hb dX0_allowedIn_21 rfl (lv_at hl 2 rfl) ?_
          refine lv_iconst (v := 1) hx hb dX0_allowedIn_22 (by decide) ?_
          refine lv_iload_n hx hb dX0_allowedIn_23 rfl (lv_at hl 3 rfl) ?_
          refine lv_ishl hx hb dX0_allowedIn_24 ?_
          refine lv_ior hx hb dX0_allowedIn_25 ?_
          refine nm_i h (fun v4 h => ?_)
          refine lv_istore_n (lv' := [(2, .int v4), (0, .ref (A 1)), (1, .int y1), (3, .int y3)]) hx hb dX0_allowedIn_26 rfl hl (by decide) rfl (fun ls hl => ?_)
          refine w_iinc (lv' := [(2, .int v4), (0, .ref (A 1)), (1, .int y1)]) hx hb dX0_allowedIn_27 hl (k := 3) rfl (by decide) (by decide) rfl h (fun v5 ls hl h => ?_)
          refine lv_goto (tgt := 4) hx hb dX0_allowedIn_30 (by decide) ?_
          exact ih v4 v5 _ _ _ hW (lv_sub hl [2, 3, 1, 0] rfl) h
  refine hL4 a1 _ (fun w6 H locs ls hW hl h => ?_) n 0 0 _ _ _ hW (lv_sub hl [2, 3, 1, 0] rfl) h
  refine lv_iload_n hx hb dX0_allowedIn_33 rfl (lv_at hl 0 rfl) ?_
  exact hret H locs _ ls _ (Option.some.inj h) rfl hW dX0_allowedIn_34
def rmX0_after : Room := { frames := 0, cells := 0, slots := 0, locals := 0 }
def f_X0_after (σ : SC) (a1 : Int32) (a2 : Int32) : Option Int32 := ld (ga σ 2) 24 a2 (fun v1 => ld (ga σ 1) 24 a2 (fun v2 => some ((a1 &&& (v1 ^^^ (-1))) ||| v2)))
theorem mi_X0_after : MI yX0_after cX0_after 3 (some .int) 2 := ⟨im_X0_after, se_X0_after, in_X0, co_X0_after, by decide, by decide, by decide +kernel⟩
set_option maxRecDepth 100000 in
set_option maxHeartbeats 4000000 in
theorem ct_X0_after (l : Launch) (G : EN) (A : Nat → Nat) (σ : SC) (sz : Nat) (a1 : Int32) (a2 : Int32) {r0 : Int32} (h : f_X0_after σ a1 a2 = some r0) : CT l yX0_after cX0_after 3 (some .int) rmX0_after G sz [.ref (A 1), .int a1, .int a2] (wC G A σ) (QI G (va_A (wC G A σ) sz) r0 (wC G A σ)) := by
  unfold f_X0_after at h
  refine CI.intro (lv := [(0, .ref (A 1)), (1, .int a1), (2, .int a2)]) (by decide) (Nat.le_of_ble_eq_true rfl) rfl ?_
  intro p e s m args below meth c Q B S hret H locs ls hW hl
  have hx := S.1
  have hb := S.2.1
  refine lv_iload_n hx hb dX0_after_0 rfl (lv_at hl 1 rfl) ?_
  refine lv_aload_n hx hb dX0_after_1 rfl (lv_at hl 0 rfl) ?_
  refine gC_X0_undoes S hW lk_X0_18 dX0_after_2 ?_
  refine lv_iload_n hx hb dX0_after_5 rfl (lv_at hl 2 rfl) ?_
  refine aC_4 S hW h dX0_after_6 (fun v1 _ h => ?_)
  refine lv_iconst (v := (-1)) hx hb dX0_after_7 (by decide) ?_
  refine lv_ixor hx hb dX0_after_8 ?_
  refine lv_iand hx hb dX0_after_9 ?_
  refine lv_aload_n hx hb dX0_after_10 rfl (lv_at hl 0 rfl) ?_
  refine gC_X0_makes S hW lk_X0_15 dX0_after_11 ?_
  refine lv_iload_n hx hb dX0_after_14 rfl (lv_at hl 2 rfl) ?_
  refine aC_3 S hW h dX0_after_15 (fun v2 _ h => ?_)
  refine lv_ior hx hb dX0_after_16 ?_
  exact hret H locs _ ls _ (Option.some.inj h) rfl hW dX0_after_17
def rmX0_countMacros : Room := { frames := 0, cells := 0, slots := 0, locals := 0 }
def LX0_countMacros_4 (σ : SC) (K : Int32 → Option Int32) : Nat → Int32 → Int32 → Option Int32
  | 0, _, _ => none
  | k + 1, y1, y2 => if (gi σ 6) ≤ y2 then K y1 else ld (ga σ 4) 24 y2 (fun v1 => if v1 = 0 then lt (y2 + 1) (fun v2 => LX0_countMacros_4 σ K k y1 v2) else lt (y1 + 1) (fun v3 => lt (y2 + 1) (fun v4 => LX0_countMacros_4 σ K k v3 v4)))
def f_X0_countMacros (n : Nat) (σ : SC) : Option Int32 := LX0_countMacros_4 σ (fun w5 => some w5) n 0 0
theorem mi_X0_countMacros : MI yX0_countMacros cX0_countMacros 3 (some .int) 0 := ⟨im_X0_countMacros, se_X0_countMacros, in_X0, co_X0_countMacros, by decide, by decide, by decide +kernel⟩
set_option maxRecDepth 100000 in
set_option maxHeartbeats 4000000 in
theorem ct_X0_countMacros (l : Launch) (n : Nat) (G : EN) (A : Nat → Nat) (σ : SC) (sz : Nat) {r0 : Int32} (h : f_X0_countMacros n σ = some r0) : CT l yX0_countMacros cX0_countMacros 3 (some .int) rmX0_countMacros G sz [.ref (A 1)] (wC G A σ) (QI G (va_A (wC G A σ) sz) r0 (wC G A σ)) := by
  unfold f_X0_countMacros at h
  refine CI.intro (lv := [(0, .ref (A 1))]) (by decide) (Nat.le_of_ble_eq_true rfl) rfl ?_
  intro p e s m args below meth c Q B S hret H locs ls hW hl
  have hx := S.1
  have hb := S.2.1
  refine lv_iconst (v := 0) hx hb dX0_countMacros_0 (by decide) ?_
  refine lv_istore_n (lv' := [(1, .int 0), (0, .ref (A 1))]) hx hb dX0_countMacros_1 rfl hl (by decide) rfl (fun ls hl => ?_)
  refine lv_iconst (v := 0) hx hb dX0_countMacros_2 (by decide) ?_
  refine lv_istore_n (lv' := [(2, .int 0), (1, .int 0), (0, .ref (A 1))]) hx hb dX0_countMacros_3 rfl hl (by decide) rfl (fun ls hl => ?_)
  have hL4 : ∀  (K : Int32 → Option Int32), (∀ (z1 : Int32) (H : Heap) (locs : List Loc) (ls : Array Slot), WS G B s (wC G A σ) H locs → lv_has ls 3 [(1, .int z1)] → K z1 = some r0 → W p l e rmX0_countMacros s m args below meth c H locs 0 0 Q (F0 m 30 ls [])) → ∀ (k : Nat)  (y1 : Int32) (y2 : Int32)  (H : Heap) (locs : List Loc) (ls : Array Slot), WS G B s (wC G A σ) H locs → lv_has ls 3 [(0, .ref (A 1)), (1, .int y1), (2, .int y2)] → LX0_countMacros_4 σ K k y1 y2 = some r0 → W p l e rmX0_countMacros s m args below meth c H locs 0 0 Q (F0 m 4 ls []) := by
    intro  K hK k
    induction k with
    | zero => intro y1 y2 H locs ls hW hl h; rw [LX0_countMacros_4] at h; cases h
    | succ k ih =>
      intro y1 y2 H locs ls hW hl h
      rw [LX0_countMacros_4] at h
      refine lv_iload_n hx hb dX0_countMacros_4 rfl (lv_at hl 2 rfl) ?_
      refine lv_aload_n hx hb dX0_countMacros_5 rfl (lv_at hl 0 rfl) ?_
      refine gC_X0_count S hW lk_X0_36 dX0_countMacros_6 ?_
      refine bc_ge (tgt := 30) hx hb h dX0_countMacros_9 (by decide) (fun _ h => ?_) (fun _ h => ?_)
      · exact hK y1 _ _ _ hW (lv_sub hl [1] rfl) h
      · refine lv_aload_n hx hb dX0_countMacros_12 rfl (lv_at hl 0 rfl) ?_
        refine gC_X0_kinds S hW lk_X0_24 dX0_countMacros_13 ?_
        refine lv_iload_n hx hb dX0_countMacros_16 rfl (lv_at hl 2 rfl) ?_
        refine aC_6 S hW h dX0_countMacros_17 (fun v1 _ h => ?_)
        refine bz_eq (tgt := 24) hx hb h dX0_countMacros_18 (by decide) (fun _ h => ?_) (fun _ h => ?_)
        · refine w_iinc (lv' := [(0, .ref (A 1)), (1, .int y1)]) hx hb dX0_countMacros_24 hl (k := 2) rfl (by decide) (by decide) rfl h (fun v2 ls hl h => ?_)
          refine lv_goto (tgt := 4) hx hb dX0_countMacros_27 (by decide) ?_
          exact ih y1 v2 _ _ _ hW (lv_sub hl [1, 2, 0] rfl) h
        · refine w_iinc (lv' := [(0, .ref (A 1)), (2, .int y2)]) hx hb dX0_countMacros_21 hl (k := 1) rfl (by decide) (by decide) rfl h (fun v3 ls hl h => ?_)
          refine w_iinc (lv' := [(1, .int v3), (0, .ref (A 1))]) hx hb dX0_countMacros_24 hl (k := 2) rfl (by decide) (by decide) rfl h (fun v4 ls hl h => ?_)
          refine lv_goto (tgt := 4) hx hb dX0_countMacros_27 (by decide) ?_
          exact ih v3 v4 _ _ _ hW (lv_sub hl [2, 1, 0] rfl) h
  refine hL4  _ (fun w5 H locs ls hW hl h => ?_) n 0 0 _ _ _ hW (lv_sub hl [2, 1, 0] rfl) h
  refine lv_iload_n hx hb dX0_countMacros_30 rfl (lv_at hl 0 rfl) ?_
  exact hret H locs _ ls _ (Option.some.inj h) rfl hW dX0_countMacros_31
def rmJ6_bitCount_0f7a4 : Room := { frames := 0, cells := 0, slots := 0, locals := 0 }
def f_J6_bitCount_0f7a4 (a0 : Int32) : Int32 := lt (a0 - (((a0.toUInt32 >>> ((1 : Int32).toUInt32 &&& Int32.toUInt32 31)).toInt32) &&& 1431655765)) (fun v1 => lt ((v1 &&& 858993459) + (((v1.toUInt32 >>> ((2 : Int32).toUInt32 &&& Int32.toUInt32 31)).toInt32) &&& 858993459)) (fun v2 => lt ((v2 + ((v2.toUInt32 >>> ((4 : Int32).toUInt32 &&& Int32.toUInt32 31)).toInt32)) &&& 252645135) (fun v3 => lt (v3 + ((v3.toUInt32 >>> ((8 : Int32).toUInt32 &&& Int32.toUInt32 31)).toInt32)) (fun v4 => lt (v4 + ((v4.toUInt32 >>> ((16 : Int32).toUInt32 &&& Int32.toUInt32 31)).toInt32)) (fun v5 => (v5 &&& 63))))))
theorem ms_J6_bitCount_0f7a4 : MSt yJ6_bitCount_0f7a4 cJ6_bitCount_0f7a4 1 (some .int) 1 := ⟨sm_J6_bitCount_0f7a4, in_J6, co_J6_bitCount_0f7a4, by decide, by decide, by decide +kernel⟩
set_option maxRecDepth 100000 in
set_option maxHeartbeats 4000000 in
theorem ct_J6_bitCount_0f7a4 (l : Launch) (G : EN) (ws : va_W) (sz : Nat) (a0 : Int32) {r0 : Int32} (h : f_J6_bitCount_0f7a4 a0 = r0) : CT l yJ6_bitCount_0f7a4 cJ6_bitCount_0f7a4 1 (some .int) rmJ6_bitCount_0f7a4 G sz [.int a0] ws (QI G (va_A ws sz) r0 ws) := by
  unfold f_J6_bitCount_0f7a4 at h
  refine CI.intro (lv := [(0, .int a0)]) (by decide) (Nat.le_of_ble_eq_true rfl) rfl ?_
  intro p e s m args below meth c Q B S hret H locs ls hW hl
  have hx := S.1
  have hb := S.2.1
  refine lv_iload_n hx hb dJ6_bitCount_0f7a4_0 rfl (lv_at hl 0 rfl) ?_
  refine lv_iload_n hx hb dJ6_bitCount_0f7a4_1 rfl (lv_at hl 0 rfl) ?_
  refine lv_iconst (v := 1) hx hb dJ6_bitCount_0f7a4_2 (by decide) ?_
  refine lv_iushr hx hb dJ6_bitCount_0f7a4_3 rfl ?_
  refine lv_ldcw (v := 1431655765) hx hb S.2.2.2.1 (S.2.2.2.2 _ lk_J6_265) dJ6_bitCount_0f7a4_4 ?_
  refine lv_iand hx hb dJ6_bitCount_0f7a4_7 ?_
  refine lv_isub hx hb dJ6_bitCount_0f7a4_8 ?_
  refine nm_i h (fun v1 h => ?_)
  refine lv_istore_n (lv' := [(0, .int v1)]) hx hb dJ6_bitCount_0f7a4_9 rfl hl (by decide) rfl (fun ls hl => ?_)
  refine lv_iload_n hx hb dJ6_bitCount_0f7a4_10 rfl (lv_at hl 0 rfl) ?_
  refine lv_ldcw (v := 858993459) hx hb S.2.2.2.1 (S.2.2.2.2 _ lk_J6_266) dJ6_bitCount_0f7a4_11 ?_
  refine lv_iand hx hb dJ6_bitCount_0f7a4_14 ?_
  refine lv_iload_n hx hb dJ6_bitCount_0f7a4_15 rfl (lv_at hl 0 rfl) ?_
  refine lv_iconst (v := 2) hx hb dJ6_bitCount_0f7a4_16 (by decide) ?_
  refine lv_iushr hx hb dJ6_bitCount_0f7a4_17 rfl ?_
  refine lv_ldcw (v := 858993459) hx hb S.2.2.2.1 (S.2.2.2.2 _ lk_J6_266) dJ6_bitCount_0f7a4_18 ?_
  refine lv_iand hx hb dJ6_bitCount_0f7a4_21 ?_
  refine lv_iadd hx hb dJ6_bitCount_0f7a4_22 ?_
  refine nm_i h (fun v2 h => ?_)
  refine lv_istore_n (lv' := [(0, .int v2)]) hx hb dJ6_bitCount_0f7a4_23 rfl hl (by decide) rfl (fun ls hl => ?_)
  refine lv_iload_n hx hb dJ6_bitCount_0f7a4_24 rfl (lv_at hl 0 rfl) ?_
  refine lv_iload_n hx hb dJ6_bitCount_0f7a4_25 rfl (lv_at hl 0 rfl) ?_
  refine lv_iconst (v := 4) hx hb dJ6_bitCount_0f7a4_26 (by decide) ?_
  refine lv_iushr hx hb dJ6_bitCount_0f7a4_27 rfl ?_
  refine lv_iadd hx hb dJ6_bitCount_0f7a4_28 ?_
  refine lv_ldcw (v := 252645135) hx hb S.2.2.2.1 (S.2.2.2.2 _ lk_J6_267) dJ6_bitCount_0f7a4_29 ?_
  refine lv_iand hx hb dJ6_bitCount_0f7a4_32 ?_
  refine nm_i h (fun v3 h => ?_)
  refine lv_istore_n (lv' := [(0, .int v3)]) hx hb dJ6_bitCount_0f7a4_33 rfl hl (by decide) rfl (fun ls hl => ?_)
  refine lv_iload_n hx hb dJ6_bitCount_0f7a4_34 rfl (lv_at hl 0 rfl) ?_
  refine lv_iload_n hx hb dJ6_bitCount_0f7a4_35 rfl (lv_at hl 0 rfl) ?_
  refine lv_bipush (v := 8) hx hb dJ6_bitCount_0f7a4_36 (by decide) ?_
  refine lv_iushr hx hb dJ6_bitCount_0f7a4_38 rfl ?_
  refine lv_iadd hx hb dJ6_bitCount_0f7a4_39 ?_
  refine nm_i h (fun v4 h => ?_)
  refine lv_istore_n (lv' := [(0, .int v4)]) hx hb dJ6_bitCount_0f7a4_40 rfl hl (by decide) rfl (fun ls hl => ?_)
  refine lv_iload_n hx hb dJ6_bitCount_0f7a4_41 rfl (lv_at hl 0 rfl) ?_
  refine lv_iload_n hx hb dJ6_bitCount_0f7a4_42 rfl (lv_at hl 0 rfl) ?_
  refine lv_bipush (v := 16) hx hb dJ6_bitCount_0f7a4_43 (by decide) ?_
  refine lv_iushr hx hb dJ6_bitCount_0f7a4_45 rfl ?_
  refine lv_iadd hx hb dJ6_bitCount_0f7a4_46 ?_
  refine nm_i h (fun v5 h => ?_)
  refine lv_istore_n (lv' := [(0, .int v5)]) hx hb dJ6_bitCount_0f7a4_47 rfl hl (by decide) rfl (fun ls hl => ?_)
  refine lv_iload_n hx hb dJ6_bitCount_0f7a4_48 rfl (lv_at hl 0 rfl) ?_
  refine lv_bipush (v := 63) hx hb dJ6_bitCount_0f7a4_49 (by decide) ?_
  refine lv_iand hx hb dJ6_bitCount_0f7a4_51 ?_
  exact hret H locs _ ls _ h rfl hW dJ6_bitCount_0f7a4_52
def rmX8_hasRow : Room := { frames := 0, cells := 0, slots := 0, locals := 0 }
def f_X8_hasRow (σ : SC) (j0 : Nat) : Int32 := if (ga σ 20 j0) < 100 then 0 else 1
theorem z_X8_hasRow (σ : SC) (j0 : Nat) : f_X8_hasRow σ j0 = 0 ∨ f_X8_hasRow σ j0 = 1 := by
  unfold f_X8_hasRow
  repeat' (first | split | exact Or.inl rfl | exact Or.inr rfl)
theorem mi_X8_hasRow : MI yX8_hasRow cX8_hasRow 1 (some .boolean) 0 := ⟨im_X8_hasRow, se_X8_hasRow, in_X8, co_X8_hasRow, by decide, by decide, by decide +kernel⟩
set_option maxRecDepth 100000 in
set_option maxHeartbeats 4000000 in
theorem ct_X8_hasRow (l : Launch) (G : EN) (A : Nat → Nat) (σ : SC) (sz : Nat) (j0 : Nat) (hj0 : j0 < 8) {r0 : Int32} (h : f_X8_hasRow σ j0 = r0) : CT l yX8_hasRow cX8_hasRow 1 (some .boolean) rmX8_hasRow G sz [.ref (A (31 + 2 * j0))] (wC G A σ) (QI G (va_A (wC G A σ) sz) r0 (wC G A σ)) := by
  unfold f_X8_hasRow at h
  refine CI.intro (lv := [(0, .ref (A (31 + 2 * j0)))]) (by decide) (Nat.le_of_ble_eq_true rfl) rfl ?_
  intro p e s m args below meth c Q B S hret H locs ls hW hl
  have hx := S.1
  have hb := S.2.1
  refine lv_aload_n hx hb dX8_hasRow_0 rfl (lv_at hl 0 rfl) ?_
  refine gC_X8_content hj0 S hW lk_X8_19 dX8_hasRow_1 ?_
  refine lv_bipush (v := 100) hx hb dX8_hasRow_4 (by decide) ?_
  refine bc_lt (tgt := 13) hx hb h dX8_hasRow_6 (by decide) (fun _ h => ?_) (fun _ h => ?_)
  · refine lv_iconst (v := 0) hx hb dX8_hasRow_13 (by decide) ?_
    exact hret H locs _ ls _ h (nar_z (Or.inl rfl)) hW dX8_hasRow_14
  · refine lv_iconst (v := 1) hx hb dX8_hasRow_9 (by decide) ?_
    refine lv_goto (tgt := 14) hx hb dX8_hasRow_10 (by decide) ?_
    exact hret H locs _ ls _ h (nar_z (Or.inr rfl)) hW dX8_hasRow_14
def rmX8_hasAction : Room := { frames := 0, cells := 0, slots := 0, locals := 0 }
def f_X8_hasAction (σ : SC) (j0 : Nat) : Int32 := if (ga σ 20 j0) = (-1) then 0 else if 100 ≤ (ga σ 20 j0) then 0 else 1
theorem z_X8_hasAction (σ : SC) (j0 : Nat) : f_X8_hasAction σ j0 = 0 ∨ f_X8_hasAction σ j0 = 1 := by
  unfold f_X8_hasAction
  repeat' (first | split | exact Or.inl rfl | exact Or.inr rfl)
theorem mi_X8_hasAction : MI yX8_hasAction cX8_hasAction 1 (some .boolean) 0 := ⟨im_X8_hasAction, se_X8_hasAction, in_X8, co_X8_hasAction, by decide, by decide, by decide +kernel⟩
set_option maxRecDepth 100000 in
set_option maxHeartbeats 4000000 in
theorem ct_X8_hasAction (l : Launch) (G : EN) (A : Nat → Nat) (σ : SC) (sz : Nat) (j0 : Nat) (hj0 : j0 < 8) {r0 : Int32} (h : f_X8_hasAction σ j0 = r0) : CT l yX8_hasAction cX8_hasAction 1 (some .boolean) rmX8_hasAction G sz [.ref (A (31 + 2 * j0))] (wC G A σ) (QI G (va_A (wC G A σ) sz) r0 (wC G A σ)) := by
  unfold f_X8_hasAction at h
  refine CI.intro (lv := [(0, .ref (A (31 + 2 * j0)))]) (by decide) (Nat.le_of_ble_eq_true rfl) rfl ?_
  intro p e s m args below meth c Q B S hret H locs ls hW hl
  have hx := S.1
  have hb := S.2.1
  refine lv_aload_n hx hb dX8_hasAction_0 rfl (lv_at hl 0 rfl) ?_
  refine gC_X8_content hj0 S hW lk_X8_19 dX8_hasAction_1 ?_
  refine lv_iconst (v := (-1)) hx hb dX8_hasAction_4 (by decide) ?_
  refine bc_eq (tgt := 21) hx hb h dX8_hasAction_5 (by decide) (fun _ h => ?_) (fun _ h => ?_)
  · refine lv_iconst (v := 0) hx hb dX8_hasAction_21 (by decide) ?_
    exact hret H locs _ ls _ h (nar_z (Or.inl rfl)) hW dX8_hasAction_22
  · refine lv_aload_n hx hb dX8_hasAction_8 rfl (lv_at hl 0 rfl) ?_
    refine gC_X8_content hj0 S hW lk_X8_19 dX8_hasAction_9 ?_
    refine lv_bipush (v := 100) hx hb dX8_hasAction_12 (by decide) ?_
    refine bc_ge (tgt := 21) hx hb h dX8_hasAction_14 (by decide) (fun _ h => ?_) (fun _ h => ?_)
    · refine lv_iconst (v := 0) hx hb dX8_hasAction_21 (by decide) ?_
      exact hret H locs _ ls _ h (nar_z (Or.inl rfl)) hW dX8_hasAction_22
    · refine lv_iconst (v := 1) hx hb dX8_hasAction_17 (by decide) ?_
      refine lv_goto (tgt := 22) hx hb dX8_hasAction_18 (by decide) ?_
      exact hret H locs _ ls _ h (nar_z (Or.inr rfl)) hW dX8_hasAction_22
def rmX8_holdRow : Room := { frames := 12, cells := 0, slots := 0, locals := 400 }
def f_X8_holdRow (σ : SC) (j0 : Nat) (a1 : Int32) (a2 : Int32) : Option SC := if a2 < 0 then some σ else if a2 ≤ 160 then lt (sa σ 20 (upd (ga σ 20) j0 (100 + a1))) (fun σ1 => lt (sa σ1 19 (upd (ga σ1 19) j0 a2)) (fun σ2 => lt (sl σ2 j0 (fun _ => 0)) (fun σ3 => some σ3))) else some σ
theorem mi_X8_holdRow : MI yX8_holdRow cX8_holdRow 3 none 2 := ⟨im_X8_holdRow, se_X8_holdRow, in_X8, co_X8_holdRow, by decide, by decide, by decide +kernel⟩
set_option maxRecDepth 100000 in
set_option maxHeartbeats 4000000 in
theorem ct_X8_holdRow (l : Launch) (G : EN) (A : Nat → Nat) (σ : SC) (sz : Nat) (j0 : Nat) (a1 : Int32) (a2 : Int32) (hj0 : j0 < 8) {σ0 : SC} (h : f_X8_holdRow σ j0 a1 a2 = some σ0) : CT l yX8_holdRow cX8_holdRow 3 none rmX8_holdRow G sz [.ref (A (31 + 2 * j0)), .int a1, .int a2] (wC G A σ) (QV G (va_A (wC G A σ) sz) (wC G A σ0)) := by
  unfold f_X8_holdRow at h
  refine CV.intro (lv := [(0, .ref (A (31 + 2 * j0))), (1, .int a1), (2, .int a2)]) (by decide) (Nat.le_of_ble_eq_true rfl) rfl ?_
  intro p e s m args below meth c Q B S hret H locs ls hW hl
  have hx := S.1
  have hb := S.2.1
  refine lv_iload_n hx hb dX8_holdRow_0 rfl (lv_at hl 2 rfl) ?_
  refine bz_lt (tgt := 11) hx hb h dX8_holdRow_1 (by decide) (fun _ h => ?_) (fun _ h => ?_)
  · exact ret_vs (wf := wC G A) hret h hW dX8_holdRow_11
  · refine lv_iload_n hx hb dX8_holdRow_4 rfl (lv_at hl 2 rfl) ?_
    refine lv_sipush (v := 160) hx hb dX8_holdRow_5 (by decide) ?_
    refine bc_le (tgt := 12) hx hb h dX8_holdRow_8 (by decide) (fun _ h => ?_) (fun _ h => ?_)
    · refine lv_aload_n hx hb dX8_holdRow_12 rfl (lv_at hl 0 rfl) ?_
      refine lv_bipush (v := 100) hx hb dX8_holdRow_13 (by decide) ?_
      refine lv_iload_n hx hb dX8_holdRow_15 rfl (lv_at hl 1 rfl) ?_
      refine lv_iadd hx hb dX8_holdRow_16 ?_
      refine pC_X8_content hj0 S hW lk_X8_19 dX8_holdRow_17 (fun σ1 H locs eσ1 hW => ?_)
      have h := lt_at eσ1 h
      refine lv_aload_n hx hb dX8_holdRow_20 rfl (lv_at hl 0 rfl) ?_
      refine lv_iload_n hx hb dX8_holdRow_21 rfl (lv_at hl 2 rfl) ?_
      refine pC_X8_size hj0 S hW lk_X8_15 dX8_holdRow_22 (fun σ2 H locs eσ2 hW => ?_)
      have h := lt_at eσ2 h
      refine lv_aload_n hx hb dX8_holdRow_25 rfl (lv_at hl 0 rfl) ?_
      refine gC_X8_elements hj0 S hW lk_X8_9 dX8_holdRow_26 ?_
      refine lv_lconst (v := 0) hx hb dX8_holdRow_29 (by decide) ?_
      refine back_v (rest := []) hW (run_S S hW (ct_fillJ l G _ (eC_el G A σ2 hj0) (uC_el G A σ2 hj0 _) (by decide)) ms_J7_fill_d0a16 lk_X8_22 rfl rfl hl (Nat.le_of_ble_eq_true rfl) dX8_holdRow_30 ⟨Nat.le_of_ble_eq_true rfl, Nat.le_of_ble_eq_true rfl⟩ rfl rfl) (fun H locs hW => ?_)
      obtain ⟨σ3, eσ3, h⟩ := lt_o h
      rw [← eσ3] at hW
      exact ret_vs (wf := wC G A) hret h hW dX8_holdRow_33
    · exact ret_vs (wf := wC G A) hret h hW dX8_holdRow_11
def rmX8_holdAction : Room := { frames := 0, cells := 0, slots := 0, locals := 0 }
def f_X8_holdAction (σ : SC) (j0 : Nat) (a1 : Int32) : Option SC := lt (sa σ 20 (upd (ga σ 20) j0 a1)) (fun σ1 => lt (sa σ1 19 (upd (ga σ1 19) j0 0)) (fun σ2 => some σ2))
theorem mi_X8_holdAction : MI yX8_holdAction cX8_holdAction 2 none 1 := ⟨im_X8_holdAction, se_X8_holdAction, in_X8, co_X8_holdAction, by decide, by decide, by decide +kernel⟩
set_option maxRecDepth 100000 in
set_option maxHeartbeats 4000000 in
theorem ct_X8_holdAction (l : Launch) (G : EN) (A : Nat → Nat) (σ : SC) (sz : Nat) (j0 : Nat) (a1 : Int32) (hj0 : j0 < 8) {σ0 : SC} (h : f_X8_holdAction σ j0 a1 = some σ0) : CT l yX8_holdAction cX8_holdAction 2 none rmX8_holdAction G sz [.ref (A (31 + 2 * j0)), .int a1] (wC G A σ) (QV G (va_A (wC G A σ) sz) (wC G A σ0)) := by
  unfold f_X8_holdAction at h
  refine CV.intro (lv := [(0, .ref (A (31 + 2 * j0))), (1, .int a1)]) (by decide) (Nat.le_of_ble_eq_true rfl) rfl ?_
  intro p e s m args below meth c Q B S hret H locs ls hW hl
  have hx := S.1
  have hb := S.2.1
  refine lv_aload_n hx hb dX8_holdAction_0 rfl (lv_at hl 0 rfl) ?_
  refine lv_iload_n hx hb dX8_holdAction_1 rfl (lv_at hl 1 rfl) ?_
  refine pC_X8_content hj0 S hW lk_X8_19 dX8_holdAction_2 (fun σ1 H locs eσ1 hW => ?_)
  have h := lt_at eσ1 h
  refine lv_aload_n hx hb dX8_holdAction_5 rfl (lv_at hl 0 rfl) ?_
  refine lv_iconst (v := 0) hx hb dX8_holdAction_6 (by decide) ?_
  refine pC_X8_size hj0 S hW lk_X8_15 dX8_holdAction_7 (fun σ2 H locs eσ2 hW => ?_)
  have h := lt_at eσ2 h
  exact ret_vs (wf := wC G A) hret h hW dX8_holdAction_10
def rmX8_hasElement : Room := { frames := 1, cells := 0, slots := 0, locals := 20 }
def f_X8_hasElement (σ : SC) (j0 : Nat) (a1 : Int32) : Int32 := if (f_X8_hasRow σ j0) = 0 then 0 else if a1 < 0 then 0 else if (ga σ 19 j0) ≤ a1 then 0 else 1
theorem z_X8_hasElement (σ : SC) (j0 : Nat) (a1 : Int32) : f_X8_hasElement σ j0 a1 = 0 ∨ f_X8_hasElement σ j0 a1 = 1 := by
  unfold f_X8_hasElement
  repeat' (first | split | exact z_X8_hasRow _ _ | exact Or.inl rfl | exact Or.inr rfl)
theorem mi_X8_hasElement : MI yX8_hasElement cX8_hasElement 2 (some .boolean) 1 := ⟨im_X8_hasElement, se_X8_hasElement, in_X8, co_X8_hasElement, by decide, by decide, by decide +kernel⟩
set_option maxRecDepth 100000 in
set_option maxHeartbeats 4000000 in
theorem ct_X8_hasElement (l : Launch) (G : EN) (A : Nat → Nat) (σ : SC) (sz : Nat) (j0 : Nat) (a1 : Int32) (hj0 : j0 < 8) {r0 : Int32} (h : f_X8_hasElement σ j0 a1 = r0) : CT l yX8_hasElement cX8_hasElement 2 (some .boolean) rmX8_hasElement G sz [.ref (A (31 + 2 * j0)), .int a1] (wC G A σ) (QI G (va_A (wC G A σ) sz) r0 (wC G A σ)) := by
  unfold f_X8_hasElement at h
  refine CI.intro (lv := [(0, .ref (A (31 + 2 * j0))), (1, .int a1)]) (by decide) (Nat.le_of_ble_eq_true rfl) rfl ?_
  intro p e s m args below meth c Q B S hret H locs ls hW hl
  have hx := S.1
  have hb := S.2.1
  refine lv_aload_n hx hb dX8_hasElement_0 rfl (lv_at hl 0 rfl) ?_
  refine back_i (rest := []) hW (run_V S hW (ct_X8_hasRow l G A σ _ j0 hj0 rfl) mi_X8_hasRow lk_X8_28 (eC_sh G A σ hj0) rfl rfl rfl hl (Nat.le_of_ble_eq_true rfl) dX8_hasElement_1 ⟨Nat.le_of_ble_eq_true rfl, Nat.le_of_ble_eq_true rfl⟩ rfl rfl) (fun H locs hW => ?_)
  refine bz_eq (tgt := 23) hx hb h dX8_hasElement_4 (by decide) (fun _ h => ?_) (fun _ h => ?_)
  · refine lv_iconst (v := 0) hx hb dX8_hasElement_23 (by decide) ?_
    exact hret H locs _ ls _ h (nar_z (Or.inl rfl)) hW dX8_hasElement_24
  · refine lv_iload_n hx hb dX8_hasElement_7 rfl (lv_at hl 1 rfl) ?_
    refine bz_lt (tgt := 23) hx hb h dX8_hasElement_8 (by decide) (fun _ h => ?_) (fun _ h => ?_)
    · refine lv_iconst (v := 0) hx hb dX8_hasElement_23 (by decide) ?_
      exact hret H locs _ ls _ h (nar_z (Or.inl rfl)) hW dX8_hasElement_24
    · refine lv_iload_n hx hb dX8_hasElement_11 rfl (lv_at hl 1 rfl) ?_
      refine lv_aload_n hx hb dX8_hasElement_12 rfl (lv_at hl 0 rfl) ?_
      refine gC_X8_size hj0 S hW lk_X8_15 dX8_hasElement_13 ?_
      refine bc_ge (tgt := 23) hx hb h dX8_hasElement_16 (by decide) (fun _ h => ?_) (fun _ h => ?_)
      · refine lv_iconst (v := 0) hx hb dX8_hasElement_23 (by decide) ?_
        exact hret H locs _ ls _ h (nar_z (Or.inl rfl)) hW dX8_hasElement_24
      · refine lv_iconst (v := 1) hx hb dX8_hasElement_19 (by decide) ?_
        refine lv_goto (tgt := 24) hx hb dX8_hasElement_20 (by decide) ?_
        exact hret H locs _ ls _ h (nar_z (Or.inr rfl)) hW dX8_hasElement_24
def rmX8_hasStretch : Room := { frames := 1, cells := 0, slots := 0, locals := 20 }
def f_X8_hasStretch (σ : SC) (j0 : Nat) (a1 : Int32) (a2 : Int32) : Int32 := if (f_X8_hasRow σ j0) = 0 then 0 else if a1 < 0 then 0 else if a2 < 0 then 0 else if (ga σ 19 j0) < a1 then 0 else if ((ga σ 19 j0) - a1) < a2 then 0 else 1
theorem z_X8_hasStretch (σ : SC) (j0 : Nat) (a1 : Int32) (a2 : Int32) : f_X8_hasStretch σ j0 a1 a2 = 0 ∨ f_X8_hasStretch σ j0 a1 a2 = 1 := by
  unfold f_X8_hasStretch
  repeat' (first | split | exact z_X8_hasRow _ _ | exact Or.inl rfl | exact Or.inr rfl)
theorem mi_X8_hasStretch : MI yX8_hasStretch cX8_hasStretch 3 (some .boolean) 2 := ⟨im_X8_hasStretch, se_X8_hasStretch, in_X8, co_X8_hasStretch, by decide, by decide, by decide +kernel⟩
set_option maxRecDepth 100000 in
set_option maxHeartbeats 4000000 in
theorem ct_X8_hasStretch (l : Launch) (G : EN) (A : Nat → Nat) (σ : SC) (sz : Nat) (j0 : Nat) (a1 : Int32) (a2 : Int32) (hj0 : j0 < 8) {r0 : Int32} (h : f_X8_hasStretch σ j0 a1 a2 = r0) : CT l yX8_hasStretch cX8_hasStretch 3 (some .boolean) rmX8_hasStretch G sz [.ref (A (31 + 2 * j0)), .int a1, .int a2] (wC G A σ) (QI G (va_A (wC G A σ) sz) r0 (wC G A σ)) := by
  unfold f_X8_hasStretch at h
  refine CI.intro (lv := [(0, .ref (A (31 + 2 * j0))), (1, .int a1), (2, .int a2)]) (by decide) (Nat.le_of_ble_eq_true rfl) rfl ?_
  intro p e s m args below meth c Q B S hret H locs ls hW hl
  have hx := S.1
  have hb := S.2.1
  refine lv_aload_n hx hb dX8_hasStretch_0 rfl (lv_at hl 0 rfl) ?_
  refine back_i (rest := []) hW (run_V S hW (ct_X8_hasRow l G A σ _ j0 hj0 rfl) mi_X8_hasRow lk_X8_28 (eC_sh G A σ hj0) rfl rfl rfl hl (Nat.le_of_ble_eq_true rfl) dX8_hasStretch_1 ⟨Nat.le_of_ble_eq_true rfl, Nat.le_of_ble_eq_true rfl⟩ rfl rfl) (fun H locs hW => ?_)
  refine bz_eq (tgt := 37) hx hb h dX8_hasStretch_4 (by decide) (fun _ h => ?_) (fun _ h => ?_)
  · refine lv_iconst (v := 0) hx hb dX8_hasStretch_37 (by decide) ?_
    exact hret H locs _ ls _ h (nar_z (Or.inl rfl)) hW dX8_hasStretch_38
  · refine lv_iload_n hx hb dX8_hasStretch_7 rfl (lv_at hl 1 rfl) ?_
    refine bz_lt (tgt := 37) hx hb h dX8_hasStretch_8 (by decide) (fun _ h => ?_) (fun _ h => ?_)
    · refine lv_iconst (v := 0) hx hb dX8_hasStretch_37 (by decide) ?_
      exact hret H locs _ ls _ h (nar_z (Or.inl rfl)) hW dX8_hasStretch_38
    · refine lv_iload_n hx hb dX8_hasStretch_11 rfl (lv_at hl 2 rfl) ?_
      refine bz_lt (tgt := 37) hx hb h dX8_hasStretch_12 (by decide) (fun _ h => ?_) (fun _ h => ?_)
      · refine lv_iconst (v := 0) hx hb dX8_hasStretch_37 (by decide) ?_
        exact hret H locs _ ls _ h (nar_z (Or.inl rfl)) hW dX8_hasStretch_38
      · refine lv_iload_n hx hb dX8_hasStretch_15 rfl (lv_at hl 1 rfl) ?_
        refine lv_aload_n hx hb dX8_hasStretch_16 rfl (lv_at hl 0 rfl) ?_
        refine gC_X8_size hj0 S hW lk_X8_15 dX8_hasStretch_17 ?_
        refine bc_gt (tgt := 37) hx hb h dX8_hasStretch_20 (by decide) (fun _ h => ?_) (fun _ h => ?_)
        · refine lv_iconst (v := 0) hx hb dX8_hasStretch_37 (by decide) ?_
          exact hret H locs _ ls _ h (nar_z (Or.inl rfl)) hW dX8_hasStretch_38
        · refine lv_iload_n hx hb dX8_hasStretch_23 rfl (lv_at hl 2 rfl) ?_
          refine lv_aload_n hx hb dX8_hasStretch_24 rfl (lv_at hl 0 rfl) ?_
          refine gC_X8_size hj0 S hW lk_X8_15 dX8_hasStretch_25 ?_
          refine lv_iload_n hx hb dX8_hasStretch_28 rfl (lv_at hl 1 rfl) ?_
          refine lv_isub hx hb dX8_hasStretch_29 ?_
          refine bc_gt (tgt := 37) hx hb h dX8_hasStretch_30 (by decide) (fun _ h => ?_) (fun _ h => ?_)
          · refine lv_iconst (v := 0) hx hb dX8_hasStretch_37 (by decide) ?_
            exact hret H locs _ ls _ h (nar_z (Or.inl rfl)) hW dX8_hasStretch_38
          · refine lv_iconst (v := 1) hx hb dX8_hasStretch_33 (by decide) ?_
            refine lv_goto (tgt := 38) hx hb dX8_hasStretch_34 (by decide) ?_
            exact hret H locs _ ls _ h (nar_z (Or.inr rfl)) hW dX8_hasStretch_38
def rmX8_keep : Room := { frames := 2, cells := 0, slots := 0, locals := 41 }
def f_X8_keep (σ : SC) (j0 : Nat) (a1 : Int32) (a2 : Int64) : Option SC := if (f_X8_hasElement σ j0 a1) = 0 then some σ else if ((ga σ 20 j0) - 100) = 0 then ck 160 a1 (lt (sl σ j0 (vp_updL (gl σ j0) a1.toNatClampNeg (((a2.toInt32).toInt8.toInt32).toInt64))) (fun σ1 => some σ1)) else if ((ga σ 20 j0) - 100) = 1 then ck 160 a1 (lt (sl σ j0 (vp_updL (gl σ j0) a1.toNatClampNeg (((a2.toInt32).toInt16.toInt32).toInt64))) (fun σ2 => some σ2)) else if ((ga σ 20 j0) - 100) = 2 then ck 160 a1 (lt (sl σ j0 (vp_updL (gl σ j0) a1.toNatClampNeg ((a2.toInt32).toInt64))) (fun σ3 => some σ3)) else ck 160 a1 (lt (sl σ j0 (vp_updL (gl σ j0) a1.toNatClampNeg a2)) (fun σ4 => some σ4))
theorem mi_X8_keep : MI yX8_keep cX8_keep 4 none 2 := ⟨im_X8_keep, se_X8_keep, in_X8, co_X8_keep, by decide, by decide, by decide +kernel⟩
set_option maxRecDepth 100000 in
set_option maxHeartbeats 4000000 in
theorem ct_X8_keep (l : Launch) (G : EN) (A : Nat → Nat) (σ : SC) (sz : Nat) (j0 : Nat) (a1 : Int32) (a2 : Int64) (hj0 : j0 < 8) {σ0 : SC} (h : f_X8_keep σ j0 a1 a2 = some σ0) : CT l yX8_keep cX8_keep 4 none rmX8_keep G sz [.ref (A (31 + 2 * j0)), .int a1, .long a2] (wC G A σ) (QV G (va_A (wC G A σ) sz) (wC G A σ0)) := by
  unfold f_X8_keep at h
  refine CV.intro (lv := [(0, .ref (A (31 + 2 * j0))), (1, .int a1), (2, .long a2)]) (by decide) (Nat.le_of_ble_eq_true rfl) rfl ?_
  intro p e s m args below meth c Q B S hret H locs ls hW hl
  have hx := S.1
  have hb := S.2.1
  refine lv_aload_n hx hb dX8_keep_0 rfl (lv_at hl 0 rfl) ?_
  refine lv_iload_n hx hb dX8_keep_1 rfl (lv_at hl 1 rfl) ?_
  refine back_i (rest := []) hW (run_V S hW (ct_X8_hasElement l G A σ _ j0 a1 hj0 rfl) mi_X8_hasElement lk_X8_32 (eC_sh G A σ hj0) rfl rfl rfl hl (Nat.le_of_ble_eq_true rfl) dX8_keep_2 ⟨Nat.le_of_ble_eq_true rfl, Nat.le_of_ble_eq_true rfl⟩ rfl rfl) (fun H locs hW => ?_)
  refine bz_ne (tgt := 9) hx hb h dX8_keep_5 (by decide) (fun _ h => ?_) (fun _ h => ?_)
  · exact ret_vs (wf := wC G A) hret h hW dX8_keep_8
  · refine lv_aload_n hx hb dX8_keep_9 rfl (lv_at hl 0 rfl) ?_
    refine gC_X8_content hj0 S hW lk_X8_19 dX8_keep_10 ?_
    refine lv_bipush (v := 100) hx hb dX8_keep_13 (by decide) ?_
    refine lv_isub hx hb dX8_keep_15 ?_
    refine b_if h (fun hs16_0 h => ?_) (fun hs16_0 h => ?_)
    · refine lv_tableIn (tgt := 44) (off := 28) hx hb dX8_keep_16 (by rw [hs16_0]; decide) (by rw [hs16_0]; decide) (by rw [hs16_0]; rfl) (by decide) ?_
      refine lv_aload_n hx hb dX8_keep_44 rfl (lv_at hl 0 rfl) ?_
      refine gC_X8_elements hj0 S hW lk_X8_9 dX8_keep_45 ?_
      refine lv_iload_n hx hb dX8_keep_48 rfl (lv_at hl 1 rfl) ?_
      refine lv_lload_n hx hb dX8_keep_49 rfl (lv_at hl 2 rfl) ?_
      refine lv_l2i hx hb dX8_keep_50 rfl ?_
      refine lv_i2b hx hb dX8_keep_51 rfl ?_
      refine lv_i2l hx hb dX8_keep_52 rfl ?_
      refine sC_el hj0 S hW h dX8_keep_53 (fun σ1 H locs eσ1 _ h hW => ?_)
      have h := lt_at eσ1 h
      refine lv_goto (tgt := 89) hx hb dX8_keep_54 (by decide) ?_
      exact ret_vs (wf := wC G A) hret h hW dX8_keep_89
    refine b_if h (fun hs16_1 h => ?_) (fun hs16_1 h => ?_)
    · refine lv_tableIn (tgt := 57) (off := 41) hx hb dX8_keep_16 (by rw [hs16_1]; decide) (by rw [hs16_1]; decide) (by rw [hs16_1]; rfl) (by decide) ?_
      refine lv_aload_n hx hb dX8_keep_57 rfl (lv_at hl 0 rfl) ?_
      refine gC_X8_elements hj0 S hW lk_X8_9 dX8_keep_58 ?_
      refine lv_iload_n hx hb dX8_keep_61 rfl (lv_at hl 1 rfl) ?_
      refine lv_lload_n hx hb dX8_keep_62 rfl (lv_at hl 2 rfl) ?_
      refine lv_l2i hx hb dX8_keep_63 rfl ?_
      refine lv_i2s hx hb dX8_keep_64 rfl ?_
      refine lv_i2l hx hb dX8_keep_65 rfl ?_
      refine sC_el hj0 S hW h dX8_keep_66 (fun σ2 H locs eσ2 _ h hW => ?_)
      have h := lt_at eσ2 h
      refine lv_goto (tgt := 89) hx hb dX8_keep_67 (by decide) ?_
      exact ret_vs (wf := wC G A) hret h hW dX8_keep_89
    refine b_if h (fun hs16_2 h => ?_) (fun hs16_2 h => ?_)
    · refine lv_tableIn (tgt := 70) (off := 54) hx hb dX8_keep_16 (by rw [hs16_2]; decide) (by rw [hs16_2]; decide) (by rw [hs16_2]; rfl) (by decide) ?_
      refine lv_aload_n hx hb dX8_keep_70 rfl (lv_at hl 0 rfl) ?_
      refine gC_X8_elements hj0 S hW lk_X8_9 dX8_keep_71 ?_
      refine lv_iload_n hx hb dX8_keep_74 rfl (lv_at hl 1 rfl) ?_
      refine lv_lload_n hx hb dX8_keep_75 rfl (lv_at hl 2 rfl) ?_
      refine lv_l2i hx hb dX8_keep_76 rfl ?_
      refine lv_i2l hx hb dX8_keep_77 rfl ?_
      refine sC_el hj0 S hW h dX8_keep_78 (fun σ3 H locs eσ3 _ h hW => ?_)
      have h := lt_at eσ3 h
      refine lv_goto (tgt := 89) hx hb dX8_keep_79 (by decide) ?_
      exact ret_vs (wf := wC G A) hret h hW dX8_keep_89
    refine lv_tableOut (tgt := 82) hx hb dX8_keep_16 (sw_out 0 2 _ (fun k h1 h2 => by have := lv_neT hs16_0 (a := 0) (by decide) ; have := lv_neT hs16_1 (a := 1) (by decide) ; have := lv_neT hs16_2 (a := 2) (by decide); omega)) (by decide) ?_
    refine lv_aload_n hx hb dX8_keep_82 rfl (lv_at hl 0 rfl) ?_
    refine gC_X8_elements hj0 S hW lk_X8_9 dX8_keep_83 ?_
    refine lv_iload_n hx hb dX8_keep_86 rfl (lv_at hl 1 rfl) ?_
    refine lv_lload_n hx hb dX8_keep_87 rfl (lv_at hl 2 rfl) ?_
    refine sC_el hj0 S hW h dX8_keep_88 (fun σ4 H locs eσ4 _ h hW => ?_)
    have h := lt_at eσ4 h
    exact ret_vs (wf := wC G A) hret h hW dX8_keep_89
def rmX8_longAt : Room := { frames := 2, cells := 0, slots := 0, locals := 41 }
def f_X8_longAt (σ : SC) (j0 : Nat) (a1 : Int32) : Option Int64 := if (f_X8_hasElement σ j0 a1) = 0 then some 0 else ld (gl σ j0) 160 a1 (fun v1 => some v1)
theorem mi_X8_longAt : MI yX8_longAt cX8_longAt 2 (some .long) 1 := ⟨im_X8_longAt, se_X8_longAt, in_X8, co_X8_longAt, by decide, by decide, by decide +kernel⟩
set_option maxRecDepth 100000 in
set_option maxHeartbeats 4000000 in
theorem ct_X8_longAt (l : Launch) (G : EN) (A : Nat → Nat) (σ : SC) (sz : Nat) (j0 : Nat) (a1 : Int32) (hj0 : j0 < 8) {r0 : Int64} (h : f_X8_longAt σ j0 a1 = some r0) : CT l yX8_longAt cX8_longAt 2 (some .long) rmX8_longAt G sz [.ref (A (31 + 2 * j0)), .int a1] (wC G A σ) (QJ G (va_A (wC G A σ) sz) r0 (wC G A σ)) := by
  unfold f_X8_longAt at h
  refine CJ.intro (lv := [(0, .ref (A (31 + 2 * j0))), (1, .int a1)]) (by decide) (Nat.le_of_ble_eq_true rfl) rfl ?_
  intro p e s m args below meth c Q B S hret H locs ls hW hl
  have hx := S.1
  have hb := S.2.1
  refine lv_aload_n hx hb dX8_longAt_0 rfl (lv_at hl 0 rfl) ?_
  refine lv_iload_n hx hb dX8_longAt_1 rfl (lv_at hl 1 rfl) ?_
  refine back_i (rest := []) hW (run_V S hW (ct_X8_hasElement l G A σ _ j0 a1 hj0 rfl) mi_X8_hasElement lk_X8_32 (eC_sh G A σ hj0) rfl rfl rfl hl (Nat.le_of_ble_eq_true rfl) dX8_longAt_2 ⟨Nat.le_of_ble_eq_true rfl, Nat.le_of_ble_eq_true rfl⟩ rfl rfl) (fun H locs hW => ?_)
  refine bz_eq (tgt := 17) hx hb h dX8_longAt_5 (by decide) (fun _ h => ?_) (fun _ h => ?_)
  · refine lv_lconst (v := 0) hx hb dX8_longAt_17 (by decide) ?_
    exact hret H locs _ ls _ (Option.some.inj h) hW dX8_longAt_18
  · refine lv_aload_n hx hb dX8_longAt_8 rfl (lv_at hl 0 rfl) ?_
    refine gC_X8_elements hj0 S hW lk_X8_9 dX8_longAt_9 ?_
    refine lv_iload_n hx hb dX8_longAt_12 rfl (lv_at hl 1 rfl) ?_
    refine aC_el hj0 S hW h dX8_longAt_13 (fun v1 _ h => ?_)
    refine lv_goto (tgt := 18) hx hb dX8_longAt_14 (by decide) ?_
    exact hret H locs _ ls _ (Option.some.inj h) hW dX8_longAt_18
def rmX8_intAt : Room := { frames := 3, cells := 0, slots := 0, locals := 62 }
def f_X8_intAt (σ : SC) (j0 : Nat) (a1 : Int32) : Option Int32 := bd (f_X8_longAt σ j0 a1) (fun v2 => some (v2.toInt32))
theorem mi_X8_intAt : MI yX8_intAt cX8_intAt 2 (some .int) 1 := ⟨im_X8_intAt, se_X8_intAt, in_X8, co_X8_intAt, by decide, by decide, by decide +kernel⟩
set_option maxRecDepth 100000 in
set_option maxHeartbeats 4000000 in
theorem ct_X8_intAt (l : Launch) (G : EN) (A : Nat → Nat) (σ : SC) (sz : Nat) (j0 : Nat) (a1 : Int32) (hj0 : j0 < 8) {r0 : Int32} (h : f_X8_intAt σ j0 a1 = some r0) : CT l yX8_intAt cX8_intAt 2 (some .int) rmX8_intAt G sz [.ref (A (31 + 2 * j0)), .int a1] (wC G A σ) (QI G (va_A (wC G A σ) sz) r0 (wC G A σ)) := by
  unfold f_X8_intAt at h
  refine CI.intro (lv := [(0, .ref (A (31 + 2 * j0))), (1, .int a1)]) (by decide) (Nat.le_of_ble_eq_true rfl) rfl ?_
  intro p e s m args below meth c Q B S hret H locs ls hW hl
  have hx := S.1
  have hb := S.2.1
  refine lv_aload_n hx hb dX8_intAt_0 rfl (lv_at hl 0 rfl) ?_
  refine lv_iload_n hx hb dX8_intAt_1 rfl (lv_at hl 1 rfl) ?_
  obtain ⟨v2, h1, h⟩ := bd_o h
  refine back_l (rest := []) hW (run_V S hW (ct_X8_longAt l G A σ _ j0 a1 hj0 h1) mi_X8_longAt lk_X8_36 (eC_sh G A σ hj0) rfl rfl rfl hl (Nat.le_of_ble_eq_true rfl) dX8_intAt_2 ⟨Nat.le_of_ble_eq_true rfl, Nat.le_of_ble_eq_true rfl⟩ rfl rfl) (fun H locs hW => ?_)
  refine lv_l2i hx hb dX8_intAt_5 rfl ?_
  exact hret H locs _ ls _ (Option.some.inj h) rfl hW dX8_intAt_6
