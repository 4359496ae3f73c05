def rmX12_in : Room := { frames := 0, cells := 0, slots := 0, locals := 0 }
def f_X12_in (a0 : Int32) (a1 : Int32) (a2 : Int32) : Int32 := if a0 < a1 then 0 else if a2 < a0 then 0 else 1
theorem z_X12_in (a0 : Int32) (a1 : Int32) (a2 : Int32) : f_X12_in a0 a1 a2 = 0 ∨ f_X12_in a0 a1 a2 = 1 := by
  unfold f_X12_in
  repeat' (first | split | exact Or.inl rfl | exact Or.inr rfl)
theorem ms_X12_in : MSt yX12_in cX12_in 3 (some .boolean) 3 := ⟨sm_X12_in, in_X12, co_X12_in, by decide, by decide, by decide +kernel⟩
set_option maxRecDepth 100000 in
set_option maxHeartbeats 4000000 in
theorem ct_X12_in (l : Launch) (G : EN) (A : Nat → Nat) (σ : SC) (sz : Nat) (a0 : Int32) (a1 : Int32) (a2 : Int32) {r0 : Int32} (h : f_X12_in a0 a1 a2 = r0) : CT l yX12_in cX12_in 3 (some .boolean) rmX12_in G sz [.int a0, .int a1, .int a2] (wM G A σ) (QI G (va_A (wM G A σ) sz) r0 (wM G A σ)) := by
  unfold f_X12_in at h
  refine CI.intro (lv := [(0, .int a0), (1, .int a1), (2, .int a2)]) (by decide) (Nat.le_of_ble_eq_true rfl) rfl ?_
  intro p e s m args below meth c Q B S hret H locs ls hW hl
  have hx := S.1
  have hb := S.2.1
  refine lv_iload_n hx hb dX12_in_0 rfl (lv_at hl 0 rfl) ?_
  refine lv_iload_n hx hb dX12_in_1 rfl (lv_at hl 1 rfl) ?_
  refine bc_lt (tgt := 14) hx hb h dX12_in_2 (by decide) (fun _ h => ?_) (fun _ h => ?_)
  · refine lv_iconst (v := 0) hx hb dX12_in_14 (by decide) ?_
    exact hret H locs _ ls _ h (nar_z (Or.inl rfl)) hW dX12_in_15
  · refine lv_iload_n hx hb dX12_in_5 rfl (lv_at hl 0 rfl) ?_
    refine lv_iload_n hx hb dX12_in_6 rfl (lv_at hl 2 rfl) ?_
    refine bc_gt (tgt := 14) hx hb h dX12_in_7 (by decide) (fun _ h => ?_) (fun _ h => ?_)
    · refine lv_iconst (v := 0) hx hb dX12_in_14 (by decide) ?_
      exact hret H locs _ ls _ h (nar_z (Or.inl rfl)) hW dX12_in_15
    · refine lv_iconst (v := 1) hx hb dX12_in_10 (by decide) ?_
      refine lv_goto (tgt := 15) hx hb dX12_in_11 (by decide) ?_
      exact hret H locs _ ls _ h (nar_z (Or.inr rfl)) hW dX12_in_15
def rmX12_refused : Room := { frames := 0, cells := 0, slots := 0, locals := 0 }
def f_X12_refused (σ : SC) (a1 : Int32) : Option (Int32 × SC) := ld (ga σ 2) 8 (-a1) (fun v1 => ck 8 (-a1) (lt (sa σ 2 (upd (ga σ 2) (-a1).toNatClampNeg (v1 + 1))) (fun σ2 => some (a1, σ2))))
theorem mi_X12_refused : MI yX12_refused cX12_refused 2 (some .int) 1 := ⟨im_X12_refused, se_X12_refused, in_X12, co_X12_refused, by decide, by decide, by decide +kernel⟩
set_option maxRecDepth 100000 in
set_option maxHeartbeats 4000000 in
theorem ct_X12_refused (l : Launch) (G : EN) (A : Nat → Nat) (σ : SC) (sz : Nat) (a1 : Int32) {r0 : Int32} {σ0 : SC} (h : f_X12_refused σ a1 = some (r0, σ0)) : CT l yX12_refused cX12_refused 2 (some .int) rmX12_refused G sz [.ref (A 0), .int a1] (wM G A σ) (QI G (va_A (wM G A σ) sz) r0 (wM G A σ0)) := by
  unfold f_X12_refused at h
  refine CI.intro (lv := [(0, .ref (A 0)), (1, .int a1)]) (by decide) (Nat.le_of_ble_eq_true rfl) rfl ?_
  intro p e s m args below meth c Q B S hret H locs ls hW hl
  have hx := S.1
  have hb := S.2.1
  refine lv_aload_n hx hb dX12_refused_0 rfl (lv_at hl 0 rfl) ?_
  refine gM_refusals S hW lk_X12_16 dX12_refused_1 ?_
  refine lv_iload_n hx hb dX12_refused_4 rfl (lv_at hl 1 rfl) ?_
  refine lv_ineg hx hb dX12_refused_5 ?_
  refine lv_dup2_11 hx hb dX12_refused_6 rfl rfl ?_
  refine aM_3 S hW h dX12_refused_7 (fun v1 _ h => ?_)
  refine lv_iconst (v := 1) hx hb dX12_refused_8 (by decide) ?_
  refine lv_iadd hx hb dX12_refused_9 ?_
  refine sM_3 S hW h dX12_refused_10 (fun σ2 H locs eσ2 _ h hW => ?_)
  have h := lt_at eσ2 h
  refine lv_iload_n hx hb dX12_refused_11 rfl (lv_at hl 1 rfl) ?_
  exact ret_is (wf := wM G A) hret h rfl hW dX12_refused_12
def rmX12_refusedBelow : Room := { frames := 0, cells := 0, slots := 0, locals := 0 }
def f_X12_refusedBelow (σ : SC) (a1 : Int32) : Option (Int32 × SC) := ld (ga σ 2) 8 (-a1) (fun v1 => ck 8 (-a1) (lt (sa σ 2 (upd (ga σ 2) (-a1).toNatClampNeg (v1 + 1))) (fun σ2 => some ((a1 - 10), σ2))))
theorem mi_X12_refusedBelow : MI yX12_refusedBelow cX12_refusedBelow 2 (some .int) 1 := ⟨im_X12_refusedBelow, se_X12_refusedBelow, in_X12, co_X12_refusedBelow, by decide, by decide, by decide +kernel⟩
set_option maxRecDepth 100000 in
set_option maxHeartbeats 4000000 in
theorem ct_X12_refusedBelow (l : Launch) (G : EN) (A : Nat → Nat) (σ : SC) (sz : Nat) (a1 : Int32) {r0 : Int32} {σ0 : SC} (h : f_X12_refusedBelow σ a1 = some (r0, σ0)) : CT l yX12_refusedBelow cX12_refusedBelow 2 (some .int) rmX12_refusedBelow G sz [.ref (A 0), .int a1] (wM G A σ) (QI G (va_A (wM G A σ) sz) r0 (wM G A σ0)) := by
  unfold f_X12_refusedBelow at h
  refine CI.intro (lv := [(0, .ref (A 0)), (1, .int a1)]) (by decide) (Nat.le_of_ble_eq_true rfl) rfl ?_
  intro p e s m args below meth c Q B S hret H locs ls hW hl
  have hx := S.1
  have hb := S.2.1
  refine lv_aload_n hx hb dX12_refusedBelow_0 rfl (lv_at hl 0 rfl) ?_
  refine gM_refusals S hW lk_X12_16 dX12_refusedBelow_1 ?_
  refine lv_iload_n hx hb dX12_refusedBelow_4 rfl (lv_at hl 1 rfl) ?_
  refine lv_ineg hx hb dX12_refusedBelow_5 ?_
  refine lv_dup2_11 hx hb dX12_refusedBelow_6 rfl rfl ?_
  refine aM_3 S hW h dX12_refusedBelow_7 (fun v1 _ h => ?_)
  refine lv_iconst (v := 1) hx hb dX12_refusedBelow_8 (by decide) ?_
  refine lv_iadd hx hb dX12_refusedBelow_9 ?_
  refine sM_3 S hW h dX12_refusedBelow_10 (fun σ2 H locs eσ2 _ h hW => ?_)
  have h := lt_at eσ2 h
  refine lv_iload_n hx hb dX12_refusedBelow_11 rfl (lv_at hl 1 rfl) ?_
  refine lv_bipush (v := 10) hx hb dX12_refusedBelow_12 (by decide) ?_
  refine lv_isub hx hb dX12_refusedBelow_14 ?_
  exact ret_is (wf := wM G A) hret h rfl hW dX12_refusedBelow_15
def rmX12_isSet : Room := { frames := 1, cells := 0, slots := 0, locals := 22 }
def f_X12_isSet (a0 : Int32) : Int32 := (f_X12_in a0 0 1073741823)
theorem z_X12_isSet (a0 : Int32) : f_X12_isSet a0 = 0 ∨ f_X12_isSet a0 = 1 := by
  unfold f_X12_isSet
  repeat' (first | split | exact z_X12_in _ _ _ | exact Or.inl rfl | exact Or.inr rfl)
theorem ms_X12_isSet : MSt yX12_isSet cX12_isSet 1 (some .boolean) 1 := ⟨sm_X12_isSet, in_X12, co_X12_isSet, by decide, by decide, by decide +kernel⟩
set_option maxRecDepth 100000 in
set_option maxHeartbeats 4000000 in
theorem ct_X12_isSet (l : Launch) (G : EN) (A : Nat → Nat) (σ : SC) (sz : Nat) (a0 : Int32) {r0 : Int32} (h : f_X12_isSet a0 = r0) : CT l yX12_isSet cX12_isSet 1 (some .boolean) rmX12_isSet G sz [.int a0] (wM G A σ) (QI G (va_A (wM G A σ) sz) r0 (wM G A σ)) := by
  unfold f_X12_isSet at h
  refine CI.intro (lv := [(0, .int a0)]) (by decide) (Nat.le_of_ble_eq_true rfl) rfl ?_
  intro p e s m args below meth c Q B S hret H locs ls hW hl
  have hx := S.1
  have hb := S.2.1
  refine lv_iload_n hx hb dX12_isSet_0 rfl (lv_at hl 0 rfl) ?_
  refine lv_iconst (v := 0) hx hb dX12_isSet_1 (by decide) ?_
  refine lv_ldc (v := 1073741823) hx hb S.2.2.2.1 (S.2.2.2.2 _ lk_X12_66) dX12_isSet_2 ?_
  refine back_i (rest := []) hW (run_S S hW (ct_X12_in l G A σ _ a0 0 1073741823 rfl) ms_X12_in lk_X12_67 rfl rfl hl (Nat.le_of_ble_eq_true rfl) dX12_isSet_4 ⟨Nat.le_of_ble_eq_true rfl, Nat.le_of_ble_eq_true rfl⟩ rfl rfl) (fun H locs hW => ?_)
  exact hret H locs _ ls _ h (nar_z (z_X12_in a0 0 1073741823)) hW dX12_isSet_7
def rmX12_isFact : Room := { frames := 1, cells := 0, slots := 0, locals := 22 }
def f_X12_isFact (a0 : Int32) : Int32 := (f_X12_in a0 0 29)
theorem z_X12_isFact (a0 : Int32) : f_X12_isFact a0 = 0 ∨ f_X12_isFact a0 = 1 := by
  unfold f_X12_isFact
  repeat' (first | split | exact z_X12_in _ _ _ | exact Or.inl rfl | exact Or.inr rfl)
theorem ms_X12_isFact : MSt yX12_isFact cX12_isFact 1 (some .boolean) 1 := ⟨sm_X12_isFact, in_X12, co_X12_isFact, by decide, by decide, by decide +kernel⟩
set_option maxRecDepth 100000 in
set_option maxHeartbeats 4000000 in
theorem ct_X12_isFact (l : Launch) (G : EN) (A : Nat → Nat) (σ : SC) (sz : Nat) (a0 : Int32) {r0 : Int32} (h : f_X12_isFact a0 = r0) : CT l yX12_isFact cX12_isFact 1 (some .boolean) rmX12_isFact G sz [.int a0] (wM G A σ) (QI G (va_A (wM G A σ) sz) r0 (wM G A σ)) := by
  unfold f_X12_isFact at h
  refine CI.intro (lv := [(0, .int a0)]) (by decide) (Nat.le_of_ble_eq_true rfl) rfl ?_
  intro p e s m args below meth c Q B S hret H locs ls hW hl
  have hx := S.1
  have hb := S.2.1
  refine lv_iload_n hx hb dX12_isFact_0 rfl (lv_at hl 0 rfl) ?_
  refine lv_iconst (v := 0) hx hb dX12_isFact_1 (by decide) ?_
  refine lv_bipush (v := 29) hx hb dX12_isFact_2 (by decide) ?_
  refine back_i (rest := []) hW (run_S S hW (ct_X12_in l G A σ _ a0 0 29 rfl) ms_X12_in lk_X12_67 rfl rfl hl (Nat.le_of_ble_eq_true rfl) dX12_isFact_4 ⟨Nat.le_of_ble_eq_true rfl, Nat.le_of_ble_eq_true rfl⟩ rfl rfl) (fun H locs hW => ?_)
  exact hret H locs _ ls _ h (nar_z (z_X12_in a0 0 29)) hW dX12_isFact_7
def rmX12_isAction : Room := { frames := 1, cells := 0, slots := 0, locals := 22 }
def f_X12_isAction (σ : SC) (a1 : Int32) : Option Int32 := ld (ga σ 0) 173 172 (fun v1 => some (f_X12_in a1 0 (v1 - 1)))
theorem mi_X12_isAction : MI yX12_isAction cX12_isAction 2 (some .boolean) 1 := ⟨im_X12_isAction, se_X12_isAction, in_X12, co_X12_isAction, by decide, by decide, by decide +kernel⟩
set_option maxRecDepth 100000 in
set_option maxHeartbeats 4000000 in
theorem ct_X12_isAction (l : Launch) (G : EN) (A : Nat → Nat) (σ : SC) (sz : Nat) (a1 : Int32) {r0 : Int32} (h : f_X12_isAction σ a1 = some r0) : CT l yX12_isAction cX12_isAction 2 (some .boolean) rmX12_isAction G sz [.ref (A 0), .int a1] (wM G A σ) (QI G (va_A (wM G A σ) sz) r0 (wM G A σ)) := by
  unfold f_X12_isAction at h
  refine CI.intro (lv := [(0, .ref (A 0)), (1, .int a1)]) (by decide) (Nat.le_of_ble_eq_true rfl) rfl ?_
  intro p e s m args below meth c Q B S hret H locs ls hW hl
  have hx := S.1
  have hb := S.2.1
  refine lv_iload_n hx hb dX12_isAction_0 rfl (lv_at hl 1 rfl) ?_
  refine lv_iconst (v := 0) hx hb dX12_isAction_1 (by decide) ?_
  refine lv_aload_n hx hb dX12_isAction_2 rfl (lv_at hl 0 rfl) ?_
  refine gM_s S hW lk_X12_7 dX12_isAction_3 ?_
  refine lv_sipush (v := 172) hx hb dX12_isAction_6 (by decide) ?_
  refine aM_1 S hW h dX12_isAction_9 (fun v1 _ h => ?_)
  refine lv_iconst (v := 1) hx hb dX12_isAction_10 (by decide) ?_
  refine lv_isub hx hb dX12_isAction_11 ?_
  refine back_i (rest := []) hW (run_S S hW (ct_X12_in l G A σ _ a1 0 (v1 - 1) rfl) ms_X12_in lk_X12_67 rfl rfl hl (Nat.le_of_ble_eq_true rfl) dX12_isAction_12 ⟨Nat.le_of_ble_eq_true rfl, Nat.le_of_ble_eq_true rfl⟩ rfl rfl) (fun H locs hW => ?_)
  exact hret H locs _ ls _ (Option.some.inj h) (nar_z (z_X12_in a1 0 (v1 - 1))) hW dX12_isAction_15
def rmX12_isShelf : Room := { frames := 1, cells := 0, slots := 0, locals := 22 }
def f_X12_isShelf (a0 : Int32) : Int32 := (f_X12_in a0 0 7)
theorem z_X12_isShelf (a0 : Int32) : f_X12_isShelf a0 = 0 ∨ f_X12_isShelf a0 = 1 := by
  unfold f_X12_isShelf
  repeat' (first | split | exact z_X12_in _ _ _ | exact Or.inl rfl | exact Or.inr rfl)
theorem ms_X12_isShelf : MSt yX12_isShelf cX12_isShelf 1 (some .boolean) 1 := ⟨sm_X12_isShelf, in_X12, co_X12_isShelf, by decide, by decide, by decide +kernel⟩
set_option maxRecDepth 100000 in
set_option maxHeartbeats 4000000 in
theorem ct_X12_isShelf (l : Launch) (G : EN) (A : Nat → Nat) (σ : SC) (sz : Nat) (a0 : Int32) {r0 : Int32} (h : f_X12_isShelf a0 = r0) : CT l yX12_isShelf cX12_isShelf 1 (some .boolean) rmX12_isShelf G sz [.int a0] (wM G A σ) (QI G (va_A (wM G A σ) sz) r0 (wM G A σ)) := by
  unfold f_X12_isShelf at h
  refine CI.intro (lv := [(0, .int a0)]) (by decide) (Nat.le_of_ble_eq_true rfl) rfl ?_
  intro p e s m args below meth c Q B S hret H locs ls hW hl
  have hx := S.1
  have hb := S.2.1
  refine lv_iload_n hx hb dX12_isShelf_0 rfl (lv_at hl 0 rfl) ?_
  refine lv_iconst (v := 0) hx hb dX12_isShelf_1 (by decide) ?_
  refine lv_bipush (v := 7) hx hb dX12_isShelf_2 (by decide) ?_
  refine back_i (rest := []) hW (run_S S hW (ct_X12_in l G A σ _ a0 0 7 rfl) ms_X12_in lk_X12_67 rfl rfl hl (Nat.le_of_ble_eq_true rfl) dX12_isShelf_4 ⟨Nat.le_of_ble_eq_true rfl, Nat.le_of_ble_eq_true rfl⟩ rfl rfl) (fun H locs hW => ?_)
  exact hret H locs _ ls _ h (nar_z (z_X12_in a0 0 7)) hW dX12_isShelf_7
def rmX12_has : Room := { frames := 0, cells := 0, slots := 0, locals := 0 }
def f_X12_has (a0 : Int32) (a1 : Int32) : Int32 := if (a1 &&& (a0 ^^^ (-1))) = 0 then 1 else 0
theorem z_X12_has (a0 : Int32) (a1 : Int32) : f_X12_has a0 a1 = 0 ∨ f_X12_has a0 a1 = 1 := by
  unfold f_X12_has
  repeat' (first | split | exact Or.inl rfl | exact Or.inr rfl)
theorem ms_X12_has : MSt yX12_has cX12_has 2 (some .boolean) 2 := ⟨sm_X12_has, in_X12, co_X12_has, by decide, by decide, by decide +kernel⟩
set_option maxRecDepth 100000 in
set_option maxHeartbeats 4000000 in
theorem ct_X12_has (l : Launch) (G : EN) (A : Nat → Nat) (σ : SC) (sz : Nat) (a0 : Int32) (a1 : Int32) {r0 : Int32} (h : f_X12_has a0 a1 = r0) : CT l yX12_has cX12_has 2 (some .boolean) rmX12_has G sz [.int a0, .int a1] (wM G A σ) (QI G (va_A (wM G A σ) sz) r0 (wM G A σ)) := by
  unfold f_X12_has at h
  refine CI.intro (lv := [(0, .int a0), (1, .int a1)]) (by decide) (Nat.le_of_ble_eq_true rfl) rfl ?_
  intro p e s m args below meth c Q B S hret H locs ls hW hl
  have hx := S.1
  have hb := S.2.1
  refine lv_iload_n hx hb dX12_has_0 rfl (lv_at hl 1 rfl) ?_
  refine lv_iload_n hx hb dX12_has_1 rfl (lv_at hl 0 rfl) ?_
  refine lv_iconst (v := (-1)) hx hb dX12_has_2 (by decide) ?_
  refine lv_ixor hx hb dX12_has_3 ?_
  refine lv_iand hx hb dX12_has_4 ?_
  refine bz_ne (tgt := 12) hx hb h dX12_has_5 (by decide) (fun _ h => ?_) (fun _ h => ?_)
  · refine lv_iconst (v := 1) hx hb dX12_has_8 (by decide) ?_
    refine lv_goto (tgt := 13) hx hb dX12_has_9 (by decide) ?_
    exact hret H locs _ ls _ h (nar_z (Or.inr rfl)) hW dX12_has_13
  · refine lv_iconst (v := 0) hx hb dX12_has_12 (by decide) ?_
    exact hret H locs _ ls _ h (nar_z (Or.inl rfl)) hW dX12_has_13
def rmX12_row : Room := { frames := 2, cells := 0, slots := 0, locals := 42 }
def LX12_row_71 (y1 : Int32) (K : SC → Option (Int32 × SC)) : Nat → SC → Int32 → Option (Int32 × SC)
  | 0, _, _ => none
  | k + 1, σ, y4 => if 160 ≤ y4 then K σ else ck 1280 ((160 * y1) + y4) (lt (sl σ 0 (vp_updL (gl σ 0) ((160 * y1) + y4).toNatClampNeg 0)) (fun σ3 => lt (y4 + 1) (fun v4 => LX12_row_71 y1 K k σ3 v4)))
def f_X12_row (n : Nat) (σ : SC) (a1 : Int32) (a2 : Int32) (a3 : Int32) : Option (Int32 × SC) := if (f_X12_isShelf a1) = 0 then bd2 (f_X12_refused σ (-1)) (fun v17 σ16 => some (v17, σ16)) else if 0 ≤ a3 then if (f_X12_in a2 0 3) = 0 then bd2 (f_X12_refused σ (-6)) (fun v11 σ10 => some (v11, σ10)) else if a3 ≤ 160 then ck 8 a1 (lt (sa σ 3 (upd (ga σ 3) a1.toNatClampNeg a2)) (fun σ1 => ck 8 a1 (lt (sa σ1 4 (upd (ga σ1 4) a1.toNatClampNeg a3)) (fun σ2 => LX12_row_71 a1 (fun σ5 => some (1, σ5)) n σ2 0)))) else bd2 (f_X12_refused σ (-7)) (fun v8 σ7 => some (v8, σ7)) else bd2 (f_X12_refused σ (-4)) (fun v14 σ13 => some (v14, σ13))
theorem mi_X12_row : MI yX12_row cX12_row 5 (some .int) 3 := ⟨im_X12_row, se_X12_row, in_X12, co_X12_row, by decide, by decide, by decide +kernel⟩
set_option maxRecDepth 100000 in
set_option maxHeartbeats 4000000 in
theorem ct_X12_row (l : Launch) (n : Nat) (G : EN) (A : Nat → Nat) (σ : SC) (sz : Nat) (a1 : Int32) (a2 : Int32) (a3 : Int32) {r0 : Int32} {σ0 : SC} (h : f_X12_row n σ a1 a2 a3 = some (r0, σ0)) : CT l yX12_row cX12_row 5 (some .int) rmX12_row G sz [.ref (A 0), .int a1, .int a2, .int a3] (wM G A σ) (QI G (va_A (wM G A σ) sz) r0 (wM G A σ0)) := by
  unfold f_X12_row at h
  refine CI.intro (lv := [(0, .ref (A 0)), (1, .int a1), (2, .int a2), (3, .int a3)]) (by decide) (Nat.le_of_ble_eq_true rfl) rfl ?_
  intro p e s m args below meth c Q B S hret H locs ls hW hl
  have hx := S.1
  have hb := S.2.1
  refine lv_iload_n hx hb dX12_row_0 rfl (lv_at hl 1 rfl) ?_
  refine back_i (rest := []) hW (run_S S hW (ct_X12_isShelf l G A σ _ a1 rfl) ms_X12_isShelf lk_X12_71 rfl rfl hl (Nat.le_of_ble_eq_true rfl) dX12_row_1 ⟨Nat.le_of_ble_eq_true rfl, Nat.le_of_ble_eq_true rfl⟩ rfl rfl) (fun H locs hW => ?_)
  refine bz_ne (tgt := 13) hx hb h dX12_row_4 (by decide) (fun _ h => ?_) (fun _ h => ?_)
  · refine lv_aload_n hx hb dX12_row_7 rfl (lv_at hl 0 rfl) ?_
    refine lv_iconst (v := (-1)) hx hb dX12_row_8 (by decide) ?_
    obtain ⟨v17, σ16, h15, h⟩ := bd2_o h
    refine back_i (rest := []) hW (run_V S hW (ct_X12_refused l G A σ _ (-1) h15) mi_X12_refused lk_X12_75 (eM_0 G A σ) rfl rfl rfl hl (Nat.le_of_ble_eq_true rfl) dX12_row_9 ⟨Nat.le_of_ble_eq_true rfl, Nat.le_of_ble_eq_true rfl⟩ rfl rfl) (fun H locs hW => ?_)
    exact ret_is (wf := wM G A) hret h rfl hW dX12_row_12
  · refine lv_iload_n hx hb dX12_row_13 rfl (lv_at hl 3 rfl) ?_
    refine bz_ge (tgt := 24) hx hb h dX12_row_14 (by decide) (fun _ h => ?_) (fun _ h => ?_)
    · refine lv_iload_n hx hb dX12_row_24 rfl (lv_at hl 2 rfl) ?_
      refine lv_iconst (v := 0) hx hb dX12_row_25 (by decide) ?_
      refine lv_iconst (v := 3) hx hb dX12_row_26 (by decide) ?_
      refine back_i (rest := []) hW (run_S S hW (ct_X12_in l G A σ _ a2 0 3 rfl) ms_X12_in lk_X12_67 rfl rfl hl (Nat.le_of_ble_eq_true rfl) dX12_row_27 ⟨Nat.le_of_ble_eq_true rfl, Nat.le_of_ble_eq_true rfl⟩ rfl rfl) (fun H locs hW => ?_)
      refine bz_ne (tgt := 40) hx hb h dX12_row_30 (by decide) (fun _ h => ?_) (fun _ h => ?_)
      · refine lv_aload_n hx hb dX12_row_33 rfl (lv_at hl 0 rfl) ?_
        refine lv_bipush (v := (-6)) hx hb dX12_row_34 (by decide) ?_
        obtain ⟨v11, σ10, h9, h⟩ := bd2_o h
        refine back_i (rest := []) hW (run_V S hW (ct_X12_refused l G A σ _ (-6) h9) mi_X12_refused lk_X12_75 (eM_0 G A σ) rfl rfl rfl hl (Nat.le_of_ble_eq_true rfl) dX12_row_36 ⟨Nat.le_of_ble_eq_true rfl, Nat.le_of_ble_eq_true rfl⟩ rfl rfl) (fun H locs hW => ?_)
        exact ret_is (wf := wM G A) hret h rfl hW dX12_row_39
      · refine lv_iload_n hx hb dX12_row_40 rfl (lv_at hl 3 rfl) ?_
        refine lv_sipush (v := 160) hx hb dX12_row_41 (by decide) ?_
        refine bc_le (tgt := 54) hx hb h dX12_row_44 (by decide) (fun _ h => ?_) (fun _ h => ?_)
        · refine lv_aload_n hx hb dX12_row_54 rfl (lv_at hl 0 rfl) ?_
          refine gM_sorts S hW lk_X12_19 dX12_row_55 ?_
          refine lv_iload_n hx hb dX12_row_58 rfl (lv_at hl 1 rfl) ?_
          refine lv_iload_n hx hb dX12_row_59 rfl (lv_at hl 2 rfl) ?_
          refine sM_4 S hW h dX12_row_60 (fun σ1 H locs eσ1 _ h hW => ?_)
          have h := lt_at eσ1 h
          refine lv_aload_n hx hb dX12_row_61 rfl (lv_at hl 0 rfl) ?_
          refine gM_sizes S hW lk_X12_22 dX12_row_62 ?_
          refine lv_iload_n hx hb dX12_row_65 rfl (lv_at hl 1 rfl) ?_
          refine lv_iload_n hx hb dX12_row_66 rfl (lv_at hl 3 rfl) ?_
          refine sM_5 S hW h dX12_row_67 (fun σ2 H locs eσ2 _ h hW => ?_)
          have h := lt_at eσ2 h
          refine lv_iconst (v := 0) hx hb dX12_row_68 (by decide) ?_
          refine lv_istore (lv' := [(4, .int 0), (0, .ref (A 0)), (1, .int a1), (2, .int a2), (3, .int a3)]) hx hb dX12_row_69 hl (by decide) rfl (fun ls hl => ?_)
          have hL71 : ∀ (y1 : Int32) (K : SC → Option (Int32 × SC)), (∀ (σ : SC) (H : Heap) (locs : List Loc) (ls : Array Slot), WS G B s (wM G A σ) H locs → lv_has ls 5 [] → K σ = some (r0, σ0) → W p l e rmX12_row s m args below meth c H locs 0 0 Q (F0 m 99 ls [])) → ∀ (k : Nat) (σ : SC) (y4 : Int32)  (H : Heap) (locs : List Loc) (ls : Array Slot), WS G B s (wM G A σ) H locs → lv_has ls 5 [(0, .ref (A 0)), (1, .int y1), (4, .int y4)] → LX12_row_71 y1 K k σ y4 = some (r0, σ0) → W p l e rmX12_row s m args below meth c H locs 0 0 Q (F0 m 71 ls []) := by
            intro y1 K hK k
            induction k with
            | zero => intro σ y4 H locs ls hW hl h; rw [LX12_row_71] at h; cases h
            | succ k ih =>
              intro σ y4 H locs ls hW hl h
              rw [LX12_row_71] at h
              refine lv_iload hx hb dX12_row_71 (lv_at hl 2 rfl) ?_
              refine lv_sipush (v := 160) hx hb dX12_row_73 (by decide) ?_
              refine bc_ge (tgt := 99) hx hb h dX12_row_76 (by decide) (fun _ h => ?_) (fun _ h => ?_)
              · exact hK σ _ _ _ hW (lv_sub hl [] rfl) h
              · refine lv_aload_n hx hb dX12_row_79 rfl (lv_at hl 0 rfl) ?_
                refine gM_items S hW lk_X12_25 dX12_row_80 ?_
                refine lv_sipush (v := 160) hx hb dX12_row_83 (by decide) ?_
                refine lv_iload_n hx hb dX12_row_86 rfl (lv_at hl 1 rfl) ?_
                refine lv_imul hx hb dX12_row_87 ?_
                refine lv_iload hx hb dX12_row_88 (lv_at hl 2 rfl) ?_
                refine lv_iadd hx hb dX12_row_90 ?_
                refine lv_lconst (v := 0) hx hb dX12_row_91 (by decide) ?_
                refine sM_6 S hW h dX12_row_92 (fun σ3 H locs eσ3 _ h hW => ?_)
                have h := lt_at eσ3 h
                refine w_iinc (lv' := [(0, .ref (A 0)), (1, .int y1)]) hx hb dX12_row_93 hl (k := 2) rfl (by decide) (by decide) rfl h (fun v4 ls hl h => ?_)
                refine lv_goto (tgt := 71) hx hb dX12_row_96 (by decide) ?_
                exact ih σ3 v4 _ _ _ hW (lv_sub hl [1, 2, 0] rfl) h
          refine hL71 a1 _ (fun σ5 H locs ls hW hl h => ?_) n σ2 0 _ _ _ hW (lv_sub hl [1, 2, 0] rfl) h
          refine lv_iconst (v := 1) hx hb dX12_row_99 (by decide) ?_
          exact ret_is (wf := wM G A) hret h rfl hW dX12_row_100
        · refine lv_aload_n hx hb dX12_row_47 rfl (lv_at hl 0 rfl) ?_
          refine lv_bipush (v := (-7)) hx hb dX12_row_48 (by decide) ?_
          obtain ⟨v8, σ7, h6, h⟩ := bd2_o h
          refine back_i (rest := []) hW (run_V S hW (ct_X12_refused l G A σ _ (-7) h6) mi_X12_refused lk_X12_75 (eM_0 G A σ) rfl rfl rfl hl (Nat.le_of_ble_eq_true rfl) dX12_row_50 ⟨Nat.le_of_ble_eq_true rfl, Nat.le_of_ble_eq_true rfl⟩ rfl rfl) (fun H locs hW => ?_)
          exact ret_is (wf := wM G A) hret h rfl hW dX12_row_53
    · refine lv_aload_n hx hb dX12_row_17 rfl (lv_at hl 0 rfl) ?_
      refine lv_bipush (v := (-4)) hx hb dX12_row_18 (by decide) ?_
      obtain ⟨v14, σ13, h12, h⟩ := bd2_o h
      refine back_i (rest := []) hW (run_V S hW (ct_X12_refused l G A σ _ (-4) h12) mi_X12_refused lk_X12_75 (eM_0 G A σ) rfl rfl rfl hl (Nat.le_of_ble_eq_true rfl) dX12_row_20 ⟨Nat.le_of_ble_eq_true rfl, Nat.le_of_ble_eq_true rfl⟩ rfl rfl) (fun H locs hW => ?_)
      exact ret_is (wf := wM G A) hret h rfl hW dX12_row_23
def rmX12_wanted : Room := { frames := 2, cells := 0, slots := 0, locals := 42 }
def f_X12_wanted (σ : SC) (a1 : Int32) : Option Int32 := if (f_X12_isShelf a1) = 0 then some (-1) else ld (ga σ 3) 8 a1 (fun v1 => if v1 = 4 then some (-2) else ld (ga σ 3) 8 a1 (fun v2 => if v2 = (-1) then some (-3) else some 0))
theorem mi_X12_wanted : MI yX12_wanted cX12_wanted 2 (some .int) 1 := ⟨im_X12_wanted, se_X12_wanted, in_X12, co_X12_wanted, by decide, by decide, by decide +kernel⟩
set_option maxRecDepth 100000 in
set_option maxHeartbeats 4000000 in
theorem ct_X12_wanted (l : Launch) (G : EN) (A : Nat → Nat) (σ : SC) (sz : Nat) (a1 : Int32) {r0 : Int32} (h : f_X12_wanted σ a1 = some r0) : CT l yX12_wanted cX12_wanted 2 (some .int) rmX12_wanted G sz [.ref (A 0), .int a1] (wM G A σ) (QI G (va_A (wM G A σ) sz) r0 (wM G A σ)) := by
  unfold f_X12_wanted at h
  refine CI.intro (lv := [(0, .ref (A 0)), (1, .int a1)]) (by decide) (Nat.le_of_ble_eq_true rfl) rfl ?_
  intro p e s m args below meth c Q B S hret H locs ls hW hl
  have hx := S.1
  have hb := S.2.1
  refine lv_iload_n hx hb dX12_wanted_0 rfl (lv_at hl 1 rfl) ?_
  refine back_i (rest := []) hW (run_S S hW (ct_X12_isShelf l G A σ _ a1 rfl) ms_X12_isShelf lk_X12_71 rfl rfl hl (Nat.le_of_ble_eq_true rfl) dX12_wanted_1 ⟨Nat.le_of_ble_eq_true rfl, Nat.le_of_ble_eq_true rfl⟩ rfl rfl) (fun H locs hW => ?_)
  refine bz_ne (tgt := 11) hx hb h dX12_wanted_4 (by decide) (fun _ h => ?_) (fun _ h => ?_)
  · refine lv_iconst (v := (-1)) hx hb dX12_wanted_7 (by decide) ?_
    refine lv_goto (tgt := 42) hx hb dX12_wanted_8 (by decide) ?_
    exact hret H locs _ ls _ (Option.some.inj h) rfl hW dX12_wanted_42
  · refine lv_aload_n hx hb dX12_wanted_11 rfl (lv_at hl 0 rfl) ?_
    refine gM_sorts S hW lk_X12_19 dX12_wanted_12 ?_
    refine lv_iload_n hx hb dX12_wanted_15 rfl (lv_at hl 1 rfl) ?_
    refine aM_4 S hW h dX12_wanted_16 (fun v1 _ h => ?_)
    refine lv_iconst (v := 4) hx hb dX12_wanted_17 (by decide) ?_
    refine bc_ne (tgt := 26) hx hb h dX12_wanted_18 (by decide) (fun _ h => ?_) (fun _ h => ?_)
    · refine lv_bipush (v := (-2)) hx hb dX12_wanted_21 (by decide) ?_
      refine lv_goto (tgt := 42) hx hb dX12_wanted_23 (by decide) ?_
      exact hret H locs _ ls _ (Option.some.inj h) rfl hW dX12_wanted_42
    · refine lv_aload_n hx hb dX12_wanted_26 rfl (lv_at hl 0 rfl) ?_
      refine gM_sorts S hW lk_X12_19 dX12_wanted_27 ?_
      refine lv_iload_n hx hb dX12_wanted_30 rfl (lv_at hl 1 rfl) ?_
      refine aM_4 S hW h dX12_wanted_31 (fun v2 _ h => ?_)
      refine lv_iconst (v := (-1)) hx hb dX12_wanted_32 (by decide) ?_
      refine bc_ne (tgt := 41) hx hb h dX12_wanted_33 (by decide) (fun _ h => ?_) (fun _ h => ?_)
      · refine lv_bipush (v := (-3)) hx hb dX12_wanted_36 (by decide) ?_
        refine lv_goto (tgt := 42) hx hb dX12_wanted_38 (by decide) ?_
        exact hret H locs _ ls _ (Option.some.inj h) rfl hW dX12_wanted_42
      · refine lv_iconst (v := 0) hx hb dX12_wanted_41 (by decide) ?_
        exact hret H locs _ ls _ (Option.some.inj h) rfl hW dX12_wanted_42
def rmX12_set : Room := { frames := 3, cells := 0, slots := 0, locals := 63 }
def f_X12_set (σ : SC) (a1 : Int32) (a2 : Int32) (a3 : Int64) : Option (Int32 × SC) := bd (f_X12_wanted σ a1) (fun v2 => if v2 = 0 then ld (ga σ 4) 8 a1 (fun v3 => if (f_X12_in a2 0 (v3 - 1)) = 0 then bd2 (f_X12_refused σ (-5)) (fun v13 σ12 => some (v13, σ12)) else ld (ga σ 3) 8 a1 (fun v4 => if v4 = 0 then ck 1280 ((160 * a1) + a2) (lt (sl σ 0 (vp_updL (gl σ 0) ((160 * a1) + a2).toNatClampNeg (((a3.toInt32).toInt8.toInt32).toInt64))) (fun σ10 => some (1, σ10))) else ld (ga σ 3) 8 a1 (fun v5 => if v5 = 1 then ck 1280 ((160 * a1) + a2) (lt (sl σ 0 (vp_updL (gl σ 0) ((160 * a1) + a2).toNatClampNeg (((a3.toInt32).toInt16.toInt32).toInt64))) (fun σ9 => some (1, σ9))) else ld (ga σ 3) 8 a1 (fun v6 => if v6 = 2 then ck 1280 ((160 * a1) + a2) (lt (sl σ 0 (vp_updL (gl σ 0) ((160 * a1) + a2).toNatClampNeg ((a3.toInt32).toInt64))) (fun σ8 => some (1, σ8))) else ck 1280 ((160 * a1) + a2) (lt (sl σ 0 (vp_updL (gl σ 0) ((160 * a1) + a2).toNatClampNeg a3)) (fun σ7 => some (1, σ7))))))) else bd2 (f_X12_refused σ v2) (fun v16 σ15 => some (v16, σ15)))
theorem mi_X12_set : MI yX12_set cX12_set 6 (some .int) 3 := ⟨im_X12_set, se_X12_set, in_X12, co_X12_set, by decide, by decide, by decide +kernel⟩
set_option maxRecDepth 100000 in
set_option maxHeartbeats 4000000 in
theorem ct_X12_set (l : Launch) (G : EN) (A : Nat → Nat) (σ : SC) (sz : Nat) (a1 : Int32) (a2 : Int32) (a3 : Int64) {r0 : Int32} {σ0 : SC} (h : f_X12_set σ a1 a2 a3 = some (r0, σ0)) : CT l yX12_set cX12_set 6 (some .int) rmX12_set G sz [.ref (A 0), .int a1, .int a2, .long a3] (wM G A σ) (QI G (va_A (wM G A σ) sz) r0 (wM G A σ0)) := by
  unfold f_X12_set at h
  refine CI.intro (lv := [(0, .ref (A 0)), (1, .int a1), (2, .int a2), (3, .long a3)]) (by decide) (Nat.le_of_ble_eq_true rfl) rfl ?_
  intro p e s m args below meth c Q B S hret H locs ls hW hl
  have hx := S.1
  have hb := S.2.1
  refine lv_aload_n hx hb dX12_set_0 rfl (lv_at hl 0 rfl) ?_
  refine lv_iload_n hx hb dX12_set_1 rfl (lv_at hl 1 rfl) ?_
  obtain ⟨v2, h1, h⟩ := bd_o h
  refine back_i (rest := []) hW (run_V S hW (ct_X12_wanted l G A σ _ a1 h1) mi_X12_wanted lk_X12_79 (eM_0 G A σ) rfl rfl rfl hl (Nat.le_of_ble_eq_true rfl) dX12_set_2 ⟨Nat.le_of_ble_eq_true rfl, Nat.le_of_ble_eq_true rfl⟩ rfl rfl) (fun H locs hW => ?_)
  refine lv_istore (lv' := [(5, .int v2), (0, .ref (A 0)), (1, .int a1), (2, .int a2), (3, .long a3)]) hx hb dX12_set_5 hl (by decide) rfl (fun ls hl => ?_)
  refine lv_iload hx hb dX12_set_7 (lv_at hl 0 rfl) ?_
  refine bz_eq (tgt := 19) hx hb h dX12_set_9 (by decide) (fun _ h => ?_) (fun _ h => ?_)
  · refine lv_iload_n hx hb dX12_set_19 rfl (lv_at hl 3 rfl) ?_
    refine lv_iconst (v := 0) hx hb dX12_set_20 (by decide) ?_
    refine lv_aload_n hx hb dX12_set_21 rfl (lv_at hl 1 rfl) ?_
    refine gM_sizes S hW lk_X12_22 dX12_set_22 ?_
    refine lv_iload_n hx hb dX12_set_25 rfl (lv_at hl 2 rfl) ?_
    refine aM_5 S hW h dX12_set_26 (fun v3 _ h => ?_)
    refine lv_iconst (v := 1) hx hb dX12_set_27 (by decide) ?_
    refine lv_isub hx hb dX12_set_28 ?_
    refine back_i (rest := []) hW (run_S S hW (ct_X12_in l G A σ _ a2 0 (v3 - 1) rfl) ms_X12_in lk_X12_67 rfl rfl hl (Nat.le_of_ble_eq_true rfl) dX12_set_29 ⟨Nat.le_of_ble_eq_true rfl, Nat.le_of_ble_eq_true rfl⟩ rfl rfl) (fun H locs hW => ?_)
    refine bz_ne (tgt := 42) hx hb h dX12_set_32 (by decide) (fun _ h => ?_) (fun _ h => ?_)
    · refine lv_aload_n hx hb dX12_set_35 rfl (lv_at hl 1 rfl) ?_
      refine lv_bipush (v := (-5)) hx hb dX12_set_36 (by decide) ?_
      obtain ⟨v13, σ12, h11, h⟩ := bd2_o h
      refine back_i (rest := []) hW (run_V S hW (ct_X12_refused l G A σ _ (-5) h11) mi_X12_refused lk_X12_75 (eM_0 G A σ) rfl rfl rfl hl (Nat.le_of_ble_eq_true rfl) dX12_set_38 ⟨Nat.le_of_ble_eq_true rfl, Nat.le_of_ble_eq_true rfl⟩ rfl rfl) (fun H locs hW => ?_)
      exact ret_is (wf := wM G A) hret h rfl hW dX12_set_41
    · refine lv_aload_n hx hb dX12_set_42 rfl (lv_at hl 1 rfl) ?_
      refine gM_items S hW lk_X12_25 dX12_set_43 ?_
      refine lv_sipush (v := 160) hx hb dX12_set_46 (by decide) ?_
      refine lv_iload_n hx hb dX12_set_49 rfl (lv_at hl 2 rfl) ?_
      refine lv_imul hx hb dX12_set_50 ?_
      refine lv_iload_n hx hb dX12_set_51 rfl (lv_at hl 3 rfl) ?_
      refine lv_iadd hx hb dX12_set_52 ?_
      refine lv_aload_n hx hb dX12_set_53 rfl (lv_at hl 1 rfl) ?_
      refine gM_sorts S hW lk_X12_19 dX12_set_54 ?_
      refine lv_iload_n hx hb dX12_set_57 rfl (lv_at hl 2 rfl) ?_
      refine aM_4 S hW h dX12_set_58 (fun v4 _ h => ?_)
      refine bz_ne (tgt := 69) hx hb h dX12_set_59 (by decide) (fun _ h => ?_) (fun _ h => ?_)
      · refine lv_lload_n hx hb dX12_set_62 rfl (lv_at hl 4 rfl) ?_
        refine lv_l2i hx hb dX12_set_63 rfl ?_
        refine lv_i2b hx hb dX12_set_64 rfl ?_
        refine lv_i2l hx hb dX12_set_65 rfl ?_
        refine lv_goto (tgt := 103) hx hb dX12_set_66 (by decide) ?_
        refine sM_6 S hW h dX12_set_103 (fun σ10 H locs eσ10 _ h hW => ?_)
        have h := lt_at eσ10 h
        refine lv_iconst (v := 1) hx hb dX12_set_104 (by decide) ?_
        exact ret_is (wf := wM G A) hret h rfl hW dX12_set_105
      · refine lv_aload_n hx hb dX12_set_69 rfl (lv_at hl 1 rfl) ?_
        refine gM_sorts S hW lk_X12_19 dX12_set_70 ?_
        refine lv_iload_n hx hb dX12_set_73 rfl (lv_at hl 2 rfl) ?_
        refine aM_4 S hW h dX12_set_74 (fun v5 _ h => ?_)
        refine lv_iconst (v := 1) hx hb dX12_set_75 (by decide) ?_
        refine bc_ne (tgt := 86) hx hb h dX12_set_76 (by decide) (fun _ h => ?_) (fun _ h => ?_)
        · refine lv_lload_n hx hb dX12_set_79 rfl (lv_at hl 4 rfl) ?_
          refine lv_l2i hx hb dX12_set_80 rfl ?_
          refine lv_i2s hx hb dX12_set_81 rfl ?_
          refine lv_i2l hx hb dX12_set_82 rfl ?_
          refine lv_goto (tgt := 103) hx hb dX12_set_83 (by decide) ?_
          refine sM_6 S hW h dX12_set_103 (fun σ9 H locs eσ9 _ h hW => ?_)
          have h := lt_at eσ9 h
          refine lv_iconst (v := 1) hx hb dX12_set_104 (by decide) ?_
          exact ret_is (wf := wM G A) hret h rfl hW dX12_set_105
        · refine lv_aload_n hx hb dX12_set_86 rfl (lv_at hl 1 rfl) ?_
          refine gM_sorts S hW lk_X12_19 dX12_set_87 ?_
          refine lv_iload_n hx hb dX12_set_90 rfl (lv_at hl 2 rfl) ?_
          refine aM_4 S hW h dX12_set_91 (fun v6 _ h => ?_)
          refine lv_iconst (v := 2) hx hb dX12_set_92 (by decide) ?_
          refine bc_ne (tgt := 102) hx hb h dX12_set_93 (by decide) (fun _ h => ?_) (fun _ h => ?_)
          · refine lv_lload_n hx hb dX12_set_96 rfl (lv_at hl 4 rfl) ?_
            refine lv_l2i hx hb dX12_set_97 rfl ?_
            refine lv_i2l hx hb dX12_set_98 rfl ?_
            refine lv_goto (tgt := 103) hx hb dX12_set_99 (by decide) ?_
            refine sM_6 S hW h dX12_set_103 (fun σ8 H locs eσ8 _ h hW => ?_)
            have h := lt_at eσ8 h
            refine lv_iconst (v := 1) hx hb dX12_set_104 (by decide) ?_
            exact ret_is (wf := wM G A) hret h rfl hW dX12_set_105
          · refine lv_lload_n hx hb dX12_set_102 rfl (lv_at hl 4 rfl) ?_
            refine sM_6 S hW h dX12_set_103 (fun σ7 H locs eσ7 _ h hW => ?_)
            have h := lt_at eσ7 h
            refine lv_iconst (v := 1) hx hb dX12_set_104 (by decide) ?_
            exact ret_is (wf := wM G A) hret h rfl hW dX12_set_105
  · refine lv_aload_n hx hb dX12_set_12 rfl (lv_at hl 1 rfl) ?_
    refine lv_iload hx hb dX12_set_13 (lv_at hl 0 rfl) ?_
    obtain ⟨v16, σ15, h14, h⟩ := bd2_o h
    refine back_i (rest := []) hW (run_V S hW (ct_X12_refused l G A σ _ v2 h14) mi_X12_refused lk_X12_75 (eM_0 G A σ) rfl rfl rfl hl (Nat.le_of_ble_eq_true rfl) dX12_set_15 ⟨Nat.le_of_ble_eq_true rfl, Nat.le_of_ble_eq_true rfl⟩ rfl rfl) (fun H locs hW => ?_)
    exact ret_is (wf := wM G A) hret h rfl hW dX12_set_18
def rmX12_copy : Room := { frames := 2, cells := 0, slots := 0, locals := 42 }
def LX12_copy_187 (y1 : Int32) (y3 : Int32) (y5 : Int32) (K : SC → Option (Int32 × SC)) : Nat → SC → Int32 → Option (Int32 × SC)
  | 0, _, _ => none
  | k + 1, σ, y7 => if y5 ≤ y7 then K σ else ld (gl σ 0) 1280 (((160 * y1) + y3) + y7) (fun v23 => ck 160 y7 (lt (sl σ 1 (vp_updL (gl σ 1) y7.toNatClampNeg v23)) (fun σ24 => lt (y7 + 1) (fun v25 => LX12_copy_187 y1 y3 y5 K k σ24 v25))))
def LX12_copy_225 (y2 : Int32) (y4 : Int32) (y5 : Int32) (K : SC → Option (Int32 × SC)) : Nat → SC → Int32 → Option (Int32 × SC)
  | 0, _, _ => none
  | k + 1, σ, y7 => if y5 ≤ y7 then K σ else ld (gl σ 1) 160 y7 (fun v27 => ck 1280 (((160 * y2) + y4) + y7) (lt (sl σ 0 (vp_updL (gl σ 0) (((160 * y2) + y4) + y7).toNatClampNeg v27)) (fun σ28 => lt (y7 + 1) (fun v29 => LX12_copy_225 y2 y4 y5 K k σ28 v29))))
def f_X12_copy (n : Nat) (σ : SC) (a1 : Int32) (a2 : Int32) (a3 : Int32) (a4 : Int32) (a5 : Int32) : Option (Int32 × SC) := if (f_X12_isShelf a1) = 0 then bd2 (f_X12_refused σ (-1)) (fun v3 σ2 => some (v3, σ2)) else if (f_X12_isShelf a2) = 0 then bd2 (f_X12_refused σ (-1)) (fun v50 σ49 => some (v50, σ49)) else ld (ga σ 3) 8 a1 (fun v4 => jn (fun (u6 : Int32) => if u6 = 0 then ld (ga σ 3) 8 a1 (fun v7 => if v7 = (-1) then bd2 (f_X12_refused σ (-3)) (fun v10 σ9 => some (v10, σ9)) else ld (ga σ 3) 8 a2 (fun v11 => if v11 = (-1) then bd2 (f_X12_refused σ (-3)) (fun v39 σ38 => some (v39, σ38)) else if 0 ≤ a5 then if a3 < 0 then bd2 (f_X12_refused σ (-5)) (fun v14 σ13 => some (v14, σ13)) else if a4 < 0 then bd2 (f_X12_refused σ (-5)) (fun v17 σ16 => some (v17, σ16)) else ld (ga σ 4) 8 a1 (fun v18 => if 0 < (lg_cmp ((a3.toInt64) + (a5.toInt64)) (v18.toInt64)) then bd2 (f_X12_refused σ (-5)) (fun v21 σ20 => some (v21, σ20)) else ld (ga σ 4) 8 a2 (fun v22 => if (lg_cmp ((a4.toInt64) + (a5.toInt64)) (v22.toInt64)) ≤ 0 then LX12_copy_187 a1 a3 a5 (fun σ26 => LX12_copy_225 a2 a4 a5 (fun σ30 => some (1, σ30)) n σ26 0) n σ 0 else bd2 (f_X12_refused σ (-5)) (fun v33 σ32 => some (v33, σ32)))) else bd2 (f_X12_refused σ (-4)) (fun v36 σ35 => some (v36, σ35)))) else bd2 (f_X12_refused σ (-2)) (fun v42 σ41 => some (v42, σ41))) (fun J5 => if v4 = 4 then J5 1 else ld (ga σ 3) 8 a2 (fun v43 => if v43 = 4 then J5 1 else ld (ga σ 3) 8 a1 (fun v44 => if v44 = (-1) then J5 0 else ld (ga σ 3) 8 a2 (fun v45 => if v45 = (-1) then J5 0 else ld (ga σ 3) 8 a1 (fun v46 => ld (ga σ 3) 8 a2 (fun v47 => if v46 = v47 then J5 0 else J5 1)))))))
theorem mi_X12_copy : MI yX12_copy cX12_copy 8 (some .int) 5 := ⟨im_X12_copy, se_X12_copy, in_X12, co_X12_copy, by decide, by decide, by decide +kernel⟩
set_option maxRecDepth 100000 in
set_option maxHeartbeats 4000000 in
theorem ct_X12_copy (l : Launch) (n : Nat) (G : EN) (A : Nat → Nat) (σ : SC) (sz : Nat) (a1 : Int32) (a2 : Int32) (a3 : Int32) (a4 : Int32) (a5 : Int32) {r0 : Int32} {σ0 : SC} (h : f_X12_copy n σ a1 a2 a3 a4 a5 = some (r0, σ0)) : CT l yX12_copy cX12_copy 8 (some .int) rmX12_copy G sz [.ref (A 0), .int a1, .int a2, .int a3, .int a4, .int a5] (wM G A σ) (QI G (va_A (wM G A σ) sz) r0 (wM G A σ0)) := by
  unfold f_X12_copy at h
  refine CI.intro (lv := [(0, .ref (A 0)), (1, .int a1), (2, .int a2), (3, .int a3), (4, .int a4), (5, .int a5)]) (by decide) (Nat.le_of_ble_eq_true rfl) rfl ?_
  intro p e s m args below meth c Q B S hret H locs ls hW hl
  have hx := S.1
  have hb := S.2.1
  refine lv_iload_n hx hb dX12_copy_0 rfl (lv_at hl 1 rfl) ?_
  refine back_i (rest := []) hW (run_S S hW (ct_X12_isShelf l G A σ _ a1 rfl) ms_X12_isShelf lk_X12_71 rfl rfl hl (Nat.le_of_ble_eq_true rfl) dX12_copy_1 ⟨Nat.le_of_ble_eq_true rfl, Nat.le_of_ble_eq_true rfl⟩ rfl rfl) (fun H locs hW => ?_)
  refine bz_eq (tgt := 14) hx hb h dX12_copy_4 (by decide) (fun _ h => ?_) (fun _ h => ?_)
  · refine lv_aload_n hx hb dX12_copy_14 rfl (lv_at hl 0 rfl) ?_
    refine lv_iconst (v := (-1)) hx hb dX12_copy_15 (by decide) ?_
    obtain ⟨v3, σ2, h1, h⟩ := bd2_o h
    refine back_i (rest := []) hW (run_V S hW (ct_X12_refused l G A σ _ (-1) h1) mi_X12_refused lk_X12_75 (eM_0 G A σ) rfl rfl rfl hl (Nat.le_of_ble_eq_true rfl) dX12_copy_16 ⟨Nat.le_of_ble_eq_true rfl, Nat.le_of_ble_eq_true rfl⟩ rfl rfl) (fun H locs hW => ?_)
    exact ret_is (wf := wM G A) hret h rfl hW dX12_copy_19
  · refine lv_iload_n hx hb dX12_copy_7 rfl (lv_at hl 2 rfl) ?_
    refine back_i (rest := []) hW (run_S S hW (ct_X12_isShelf l G A σ _ a2 rfl) ms_X12_isShelf lk_X12_71 rfl rfl hl (Nat.le_of_ble_eq_true rfl) dX12_copy_8 ⟨Nat.le_of_ble_eq_true rfl, Nat.le_of_ble_eq_true rfl⟩ rfl rfl) (fun H locs hW => ?_)
    refine bz_ne (tgt := 20) hx hb h dX12_copy_11 (by decide) (fun _ h => ?_) (fun _ h => ?_)
    · refine lv_aload_n hx hb dX12_copy_14 rfl (lv_at hl 0 rfl) ?_
      refine lv_iconst (v := (-1)) hx hb dX12_copy_15 (by decide) ?_
      obtain ⟨v50, σ49, h48, h⟩ := bd2_o h
      refine back_i (rest := []) hW (run_V S hW (ct_X12_refused l G A σ _ (-1) h48) mi_X12_refused lk_X12_75 (eM_0 G A σ) rfl rfl rfl hl (Nat.le_of_ble_eq_true rfl) dX12_copy_16 ⟨Nat.le_of_ble_eq_true rfl, Nat.le_of_ble_eq_true rfl⟩ rfl rfl) (fun H locs hW => ?_)
      exact ret_is (wf := wM G A) hret h rfl hW dX12_copy_19
    · refine lv_aload_n hx hb dX12_copy_20 rfl (lv_at hl 0 rfl) ?_
      refine gM_sorts S hW lk_X12_19 dX12_copy_21 ?_
      refine lv_iload_n hx hb dX12_copy_24 rfl (lv_at hl 1 rfl) ?_
      refine aM_4 S hW h dX12_copy_25 (fun v4 _ h => ?_)
      refine lv_iconst (v := 4) hx hb dX12_copy_26 (by decide) ?_
      obtain ⟨J5, eJ5, h⟩ := jn_o h
      have hJ5 : ∀ (u6 : Int32)  (H : Heap) (locs : List Loc) (ls : Array Slot), WS G B s (wM G A σ) H locs → lv_has ls 8 [(0, .ref (A 0)), (1, .int a1), (2, .int a2), (3, .int a3), (4, .int a4), (5, .int a5)] → J5 u6 = some (r0, σ0) → W p l e rmX12_copy s m args below meth c H locs 0 0 Q (F0 m 80 ls [.int u6]) := by
        subst eJ5
        intro u6 H locs ls hW hl h
        refine lv_istore (lv' := [(6, .int u6), (0, .ref (A 0)), (1, .int a1), (2, .int a2), (3, .int a3), (4, .int a4), (5, .int a5)]) hx hb dX12_copy_80 hl (by decide) rfl (fun ls hl => ?_)
        refine lv_iload hx hb dX12_copy_82 (lv_at hl 0 rfl) ?_
        refine bz_eq (tgt := 94) hx hb h dX12_copy_84 (by decide) (fun _ h => ?_) (fun _ h => ?_)
        · refine lv_aload_n hx hb dX12_copy_94 rfl (lv_at hl 1 rfl) ?_
          refine gM_sorts S hW lk_X12_19 dX12_copy_95 ?_
          refine lv_iload_n hx hb dX12_copy_98 rfl (lv_at hl 2 rfl) ?_
          refine aM_4 S hW h dX12_copy_99 (fun v7 _ h => ?_)
          refine lv_iconst (v := (-1)) hx hb dX12_copy_100 (by decide) ?_
          refine bc_eq (tgt := 114) hx hb h dX12_copy_101 (by decide) (fun _ h => ?_) (fun _ h => ?_)
          · refine lv_aload_n hx hb dX12_copy_114 rfl (lv_at hl 1 rfl) ?_
            refine lv_bipush (v := (-3)) hx hb dX12_copy_115 (by decide) ?_
            obtain ⟨v10, σ9, h8, h⟩ := bd2_o h
            refine back_i (rest := []) hW (run_V S hW (ct_X12_refused l G A σ _ (-3) h8) mi_X12_refused lk_X12_75 (eM_0 G A σ) rfl rfl rfl hl (Nat.le_of_ble_eq_true rfl) dX12_copy_117 ⟨Nat.le_of_ble_eq_true rfl, Nat.le_of_ble_eq_true rfl⟩ rfl rfl) (fun H locs hW => ?_)
            exact ret_is (wf := wM G A) hret h rfl hW dX12_copy_120
          · refine lv_aload_n hx hb dX12_copy_104 rfl (lv_at hl 1 rfl) ?_
            refine gM_sorts S hW lk_X12_19 dX12_copy_105 ?_
            refine lv_iload_n hx hb dX12_copy_108 rfl (lv_at hl 3 rfl) ?_
            refine aM_4 S hW h dX12_copy_109 (fun v11 _ h => ?_)
            refine lv_iconst (v := (-1)) hx hb dX12_copy_110 (by decide) ?_
            refine bc_ne (tgt := 121) hx hb h dX12_copy_111 (by decide) (fun _ h => ?_) (fun _ h => ?_)
            · refine lv_aload_n hx hb dX12_copy_114 rfl (lv_at hl 1 rfl) ?_
              refine lv_bipush (v := (-3)) hx hb dX12_copy_115 (by decide) ?_
              obtain ⟨v39, σ38, h37, h⟩ := bd2_o h
              refine back_i (rest := []) hW (run_V S hW (ct_X12_refused l G A σ _ (-3) h37) mi_X12_refused lk_X12_75 (eM_0 G A σ) rfl rfl rfl hl (Nat.le_of_ble_eq_true rfl) dX12_copy_117 ⟨Nat.le_of_ble_eq_true rfl, Nat.le_of_ble_eq_true rfl⟩ rfl rfl) (fun H locs hW => ?_)
              exact ret_is (wf := wM G A) hret h rfl hW dX12_copy_120
            · refine lv_iload hx hb dX12_copy_121 (lv_at hl 6 rfl) ?_
              refine bz_ge (tgt := 133) hx hb h dX12_copy_123 (by decide) (fun _ h => ?_) (fun _ h => ?_)
              · refine lv_iload_n hx hb dX12_copy_133 rfl (lv_at hl 4 rfl) ?_
                refine bz_lt (tgt := 177) hx hb h dX12_copy_134 (by decide) (fun _ h => ?_) (fun _ h => ?_)
                · refine lv_aload_n hx hb dX12_copy_177 rfl (lv_at hl 1 rfl) ?_
                  refine lv_bipush (v := (-5)) hx hb dX12_copy_178 (by decide) ?_
                  obtain ⟨v14, σ13, h12, h⟩ := bd2_o h
                  refine back_i (rest := []) hW (run_V S hW (ct_X12_refused l G A σ _ (-5) h12) mi_X12_refused lk_X12_75 (eM_0 G A σ) rfl rfl rfl hl (Nat.le_of_ble_eq_true rfl) dX12_copy_180 ⟨Nat.le_of_ble_eq_true rfl, Nat.le_of_ble_eq_true rfl⟩ rfl rfl) (fun H locs hW => ?_)
                  exact ret_is (wf := wM G A) hret h rfl hW dX12_copy_183
                · refine lv_iload hx hb dX12_copy_137 (lv_at hl 5 rfl) ?_
                  refine bz_lt (tgt := 177) hx hb h dX12_copy_139 (by decide) (fun _ h => ?_) (fun _ h => ?_)
                  · refine lv_aload_n hx hb dX12_copy_177 rfl (lv_at hl 1 rfl) ?_
                    refine lv_bipush (v := (-5)) hx hb dX12_copy_178 (by decide) ?_
                    obtain ⟨v17, σ16, h15, h⟩ := bd2_o h
                    refine back_i (rest := []) hW (run_V S hW (ct_X12_refused l G A σ _ (-5) h15) mi_X12_refused lk_X12_75 (eM_0 G A σ) rfl rfl rfl hl (Nat.le_of_ble_eq_true rfl) dX12_copy_180 ⟨Nat.le_of_ble_eq_true rfl, Nat.le_of_ble_eq_true rfl⟩ rfl rfl) (fun H locs hW => ?_)
                    exact ret_is (wf := wM G A) hret h rfl hW dX12_copy_183
                  · refine lv_iload_n hx hb dX12_copy_142 rfl (lv_at hl 4 rfl) ?_
                    refine lv_i2l hx hb dX12_copy_143 rfl ?_
                    refine lv_iload hx hb dX12_copy_144 (lv_at hl 6 rfl) ?_
                    refine lv_i2l hx hb dX12_copy_146 rfl ?_
                    refine lv_ladd hx hb dX12_copy_147 ?_
                    refine lv_aload_n hx hb dX12_copy_148 rfl (lv_at hl 1 rfl) ?_
                    refine gM_sizes S hW lk_X12_22 dX12_copy_149 ?_
                    refine lv_iload_n hx hb dX12_copy_152 rfl (lv_at hl 2 rfl) ?_
                    refine aM_5 S hW h dX12_copy_153 (fun v18 _ h => ?_)
                    refine lv_i2l hx hb dX12_copy_154 rfl ?_
                    refine W.lcmp hx hb dX12_copy_155 ?_
                    refine bz_gt (tgt := 177) hx hb h dX12_copy_156 (by decide) (fun _ h => ?_) (fun _ h => ?_)
                    · refine lv_aload_n hx hb dX12_copy_177 rfl (lv_at hl 1 rfl) ?_
                      refine lv_bipush (v := (-5)) hx hb dX12_copy_178 (by decide) ?_
                      obtain ⟨v21, σ20, h19, h⟩ := bd2_o h
                      refine back_i (rest := []) hW (run_V S hW (ct_X12_refused l G A σ _ (-5) h19) mi_X12_refused lk_X12_75 (eM_0 G A σ) rfl rfl rfl hl (Nat.le_of_ble_eq_true rfl) dX12_copy_180 ⟨Nat.le_of_ble_eq_true rfl, Nat.le_of_ble_eq_true rfl⟩ rfl rfl) (fun H locs hW => ?_)
                      exact ret_is (wf := wM G A) hret h rfl hW dX12_copy_183
                    · refine lv_iload hx hb dX12_copy_159 (lv_at hl 5 rfl) ?_
                      refine lv_i2l hx hb dX12_copy_161 rfl ?_
                      refine lv_iload hx hb dX12_copy_162 (lv_at hl 6 rfl) ?_
                      refine lv_i2l hx hb dX12_copy_164 rfl ?_
                      refine lv_ladd hx hb dX12_copy_165 ?_
                      refine lv_aload_n hx hb dX12_copy_166 rfl (lv_at hl 1 rfl) ?_
                      refine gM_sizes S hW lk_X12_22 dX12_copy_167 ?_
                      refine lv_iload_n hx hb dX12_copy_170 rfl (lv_at hl 3 rfl) ?_
                      refine aM_5 S hW h dX12_copy_171 (fun v22 _ h => ?_)
                      refine lv_i2l hx hb dX12_copy_172 rfl ?_
                      refine W.lcmp hx hb dX12_copy_173 ?_
                      refine bz_le (tgt := 184) hx hb h dX12_copy_174 (by decide) (fun _ h => ?_) (fun _ h => ?_)
                      · refine lv_iconst (v := 0) hx hb dX12_copy_184 (by decide) ?_
                        refine lv_istore (lv' := [(7, .int 0), (6, .int u6), (0, .ref (A 0)), (1, .int a1), (2, .int a2), (3, .int a3), (4, .int a4), (5, .int a5)]) hx hb dX12_copy_185 hl (by decide) rfl (fun ls hl => ?_)
                        have hL187 : ∀ (y1 : Int32) (y2 : Int32) (y3 : Int32) (y4 : Int32) (y5 : Int32) (K : SC → Option (Int32 × SC)), (∀ (σ : SC) (H : Heap) (locs : List Loc) (ls : Array Slot), WS G B s (wM G A σ) H locs → lv_has ls 8 [(0, .ref (A 0)), (2, .int y2), (4, .int y4), (5, .int y5)] → K σ = some (r0, σ0) → W p l e rmX12_copy s m args below meth c H locs 0 0 Q (F0 m 222 ls [])) → ∀ (k : Nat) (σ : SC) (y7 : Int32)  (H : Heap) (locs : List Loc) (ls : Array Slot), WS G B s (wM G A σ) H locs → lv_has ls 8 [(0, .ref (A 0)), (1, .int y1), (2, .int y2), (3, .int y3), (4, .int y4), (5, .int y5), (7, .int y7)] → LX12_copy_187 y1 y3 y5 K k σ y7 = some (r0, σ0) → W p l e rmX12_copy s m args below meth c H locs 0 0 Q (F0 m 187 ls []) := by
                          intro y1 y2 y3 y4 y5 K hK k
                          induction k with
                          | zero => intro σ y7 H locs ls hW hl h; rw [LX12_copy_187] at h; cases h
                          | succ k ih =>
                            intro σ y7 H locs ls hW hl h
                            rw [LX12_copy_187] at h
                            refine lv_iload hx hb dX12_copy_187 (lv_at hl 6 rfl) ?_
                            refine lv_iload hx hb dX12_copy_189 (lv_at hl 5 rfl) ?_
                            refine bc_ge (tgt := 222) hx hb h dX12_copy_191 (by decide) (fun _ h => ?_) (fun _ h => ?_)
                            · exact hK σ _ _ _ hW (lv_sub hl [0, 2, 4, 5] rfl) h
                            · refine lv_aload_n hx hb dX12_copy_194 rfl (lv_at hl 0 rfl) ?_
                              refine gM_copied S hW lk_X12_29 dX12_copy_195 ?_
                              refine lv_iload hx hb dX12_copy_198 (lv_at hl 6 rfl) ?_
                              refine lv_aload_n hx hb dX12_copy_200 rfl (lv_at hl 0 rfl) ?_
                              refine gM_items S hW lk_X12_25 dX12_copy_201 ?_
                              refine lv_sipush (v := 160) hx hb dX12_copy_204 (by decide) ?_
                              refine lv_iload_n hx hb dX12_copy_207 rfl (lv_at hl 1 rfl) ?_
                              refine lv_imul hx hb dX12_copy_208 ?_
                              refine lv_iload_n hx hb dX12_copy_209 rfl (lv_at hl 3 rfl) ?_
                              refine lv_iadd hx hb dX12_copy_210 ?_
                              refine lv_iload hx hb dX12_copy_211 (lv_at hl 6 rfl) ?_
                              refine lv_iadd hx hb dX12_copy_213 ?_
                              refine aM_6 S hW h dX12_copy_214 (fun v23 _ h => ?_)
                              refine sM_7 S hW h dX12_copy_215 (fun σ24 H locs eσ24 _ h hW => ?_)
                              have h := lt_at eσ24 h
                              refine w_iinc (lv' := [(0, .ref (A 0)), (1, .int y1), (2, .int y2), (3, .int y3), (4, .int y4), (5, .int y5)]) hx hb dX12_copy_216 hl (k := 6) rfl (by decide) (by decide) rfl h (fun v25 ls hl h => ?_)
                              refine lv_goto (tgt := 187) hx hb dX12_copy_219 (by decide) ?_
                              exact ih σ24 v25 _ _ _ hW (lv_sub hl [1, 2, 3, 4, 5, 6, 0] rfl) h
                        refine hL187 a1 a2 a3 a4 a5 _ (fun σ26 H locs ls hW hl h => ?_) n σ 0 _ _ _ hW (lv_sub hl [2, 3, 4, 5, 6, 7, 0] rfl) h
                        refine lv_iconst (v := 0) hx hb dX12_copy_222 (by decide) ?_
                        refine lv_istore (lv' := [(7, .int 0), (0, .ref (A 0)), (2, .int a2), (4, .int a4), (5, .int a5)]) hx hb dX12_copy_223 hl (by decide) rfl (fun ls hl => ?_)
                        have hL225 : ∀ (y2 : Int32) (y4 : Int32) (y5 : Int32) (K : SC → Option (Int32 × SC)), (∀ (σ : SC) (H : Heap) (locs : List Loc) (ls : Array Slot), WS G B s (wM G A σ) H locs → lv_has ls 8 [] → K σ = some (r0, σ0) → W p l e rmX12_copy s m args below meth c H locs 0 0 Q (F0 m 261 ls [])) → ∀ (k : Nat) (σ : SC) (y7 : Int32)  (H : Heap) (locs : List Loc) (ls : Array Slot), WS G B s (wM G A σ) H locs → lv_has ls 8 [(0, .ref (A 0)), (2, .int y2), (4, .int y4), (5, .int y5), (7, .int y7)] → LX12_copy_225 y2 y4 y5 K k σ y7 = some (r0, σ0) → W p l e rmX12_copy s m args below meth c H locs 0 0 Q (F0 m 225 ls []) := by
                          intro y2 y4 y5 K hK k
                          induction k with
                          | zero => intro σ y7 H locs ls hW hl h; rw [LX12_copy_225] at h; cases h
                          | succ k ih =>
                            intro σ y7 H locs ls hW hl h
                            rw [LX12_copy_225] at h
                            refine lv_iload hx hb dX12_copy_225 (lv_at hl 4 rfl) ?_
                            refine lv_iload hx hb dX12_copy_227 (lv_at hl 3 rfl) ?_
                            refine bc_ge (tgt := 261) hx hb h dX12_copy_229 (by decide) (fun _ h => ?_) (fun _ h => ?_)
                            · exact hK σ _ _ _ hW (lv_sub hl [] rfl) h
                            · refine lv_aload_n hx hb dX12_copy_232 rfl (lv_at hl 0 rfl) ?_
                              refine gM_items S hW lk_X12_25 dX12_copy_233 ?_
                              refine lv_sipush (v := 160) hx hb dX12_copy_236 (by decide) ?_
                              refine lv_iload_n hx hb dX12_copy_239 rfl (lv_at hl 1 rfl) ?_
                              refine lv_imul hx hb dX12_copy_240 ?_
                              refine lv_iload hx hb dX12_copy_241 (lv_at hl 2 rfl) ?_
                              refine lv_iadd hx hb dX12_copy_243 ?_
                              refine lv_iload hx hb dX12_copy_244 (lv_at hl 4 rfl) ?_
                              refine lv_iadd hx hb dX12_copy_246 ?_
                              refine lv_aload_n hx hb dX12_copy_247 rfl (lv_at hl 0 rfl) ?_
                              refine gM_copied S hW lk_X12_29 dX12_copy_248 ?_
                              refine lv_iload hx hb dX12_copy_251 (lv_at hl 4 rfl) ?_
                              refine aM_7 S hW h dX12_copy_253 (fun v27 _ h => ?_)
                              refine sM_6 S hW h dX12_copy_254 (fun σ28 H locs eσ28 _ h hW => ?_)
                              have h := lt_at eσ28 h
                              refine w_iinc (lv' := [(0, .ref (A 0)), (2, .int y2), (4, .int y4), (5, .int y5)]) hx hb dX12_copy_255 hl (k := 4) rfl (by decide) (by decide) rfl h (fun v29 ls hl h => ?_)
                              refine lv_goto (tgt := 225) hx hb dX12_copy_258 (by decide) ?_
                              exact ih σ28 v29 _ _ _ hW (lv_sub hl [1, 2, 3, 4, 0] rfl) h
                        refine hL225 a2 a4 a5 _ (fun σ30 H locs ls hW hl h => ?_) n σ26 0 _ _ _ hW (lv_sub hl [1, 2, 3, 4, 0] rfl) h
                        refine lv_iconst (v := 1) hx hb dX12_copy_261 (by decide) ?_
                        exact ret_is (wf := wM G A) hret h rfl hW dX12_copy_262
                      · refine lv_aload_n hx hb dX12_copy_177 rfl (lv_at hl 1 rfl) ?_
                        refine lv_bipush (v := (-5)) hx hb dX12_copy_178 (by decide) ?_
                        obtain ⟨v33, σ32, h31, h⟩ := bd2_o h
                        refine back_i (rest := []) hW (run_V S hW (ct_X12_refused l G A σ _ (-5) h31) mi_X12_refused lk_X12_75 (eM_0 G A σ) rfl rfl rfl hl (Nat.le_of_ble_eq_true rfl) dX12_copy_180 ⟨Nat.le_of_ble_eq_true rfl, Nat.le_of_ble_eq_true rfl⟩ rfl rfl) (fun H locs hW => ?_)
                        exact ret_is (wf := wM G A) hret h rfl hW dX12_copy_183
              · refine lv_aload_n hx hb dX12_copy_126 rfl (lv_at hl 1 rfl) ?_
                refine lv_bipush (v := (-4)) hx hb dX12_copy_127 (by decide) ?_
                obtain ⟨v36, σ35, h34, h⟩ := bd2_o h
                refine back_i (rest := []) hW (run_V S hW (ct_X12_refused l G A σ _ (-4) h34) mi_X12_refused lk_X12_75 (eM_0 G A σ) rfl rfl rfl hl (Nat.le_of_ble_eq_true rfl) dX12_copy_129 ⟨Nat.le_of_ble_eq_true rfl, Nat.le_of_ble_eq_true rfl⟩ rfl rfl) (fun H locs hW => ?_)
                exact ret_is (wf := wM G A) hret h rfl hW dX12_copy_132
        · refine lv_aload_n hx hb dX12_copy_87 rfl (lv_at hl 1 rfl) ?_
          refine lv_bipush (v := (-2)) hx hb dX12_copy_88 (by decide) ?_
          obtain ⟨v42, σ41, h40, h⟩ := bd2_o h
          refine back_i (rest := []) hW (run_V S hW (ct_X12_refused l G A σ _ (-2) h40) mi_X12_refused lk_X12_75 (eM_0 G A σ) rfl rfl rfl hl (Nat.le_of_ble_eq_true rfl) dX12_copy_90 ⟨Nat.le_of_ble_eq_true rfl, Nat.le_of_ble_eq_true rfl⟩ rfl rfl) (fun H locs hW => ?_)
          exact ret_is (wf := wM G A) hret h rfl hW dX12_copy_93
      clear eJ5
      refine bc_eq (tgt := 75) hx hb h dX12_copy_27 (by decide) (fun _ h => ?_) (fun _ h => ?_)
      · refine lv_iconst (v := 1) hx hb dX12_copy_75 (by decide) ?_
        refine lv_goto (tgt := 80) hx hb dX12_copy_76 (by decide) ?_
        exact hJ5 1 _ _ _ hW (hl) h
      · refine lv_aload_n hx hb dX12_copy_30 rfl (lv_at hl 0 rfl) ?_
        refine gM_sorts S hW lk_X12_19 dX12_copy_31 ?_
        refine lv_iload_n hx hb dX12_copy_34 rfl (lv_at hl 2 rfl) ?_
        refine aM_4 S hW h dX12_copy_35 (fun v43 _ h => ?_)
        refine lv_iconst (v := 4) hx hb dX12_copy_36 (by decide) ?_
        refine bc_eq (tgt := 75) hx hb h dX12_copy_37 (by decide) (fun _ h => ?_) (fun _ h => ?_)
        · refine lv_iconst (v := 1) hx hb dX12_copy_75 (by decide) ?_
          refine lv_goto (tgt := 80) hx hb dX12_copy_76 (by decide) ?_
          exact hJ5 1 _ _ _ hW (hl) h
        · refine lv_aload_n hx hb dX12_copy_40 rfl (lv_at hl 0 rfl) ?_
          refine gM_sorts S hW lk_X12_19 dX12_copy_41 ?_
          refine lv_iload_n hx hb dX12_copy_44 rfl (lv_at hl 1 rfl) ?_
          refine aM_4 S hW h dX12_copy_45 (fun v44 _ h => ?_)
          refine lv_iconst (v := (-1)) hx hb dX12_copy_46 (by decide) ?_
          refine bc_eq (tgt := 79) hx hb h dX12_copy_47 (by decide) (fun _ h => ?_) (fun _ h => ?_)
          · refine lv_iconst (v := 0) hx hb dX12_copy_79 (by decide) ?_
            exact hJ5 0 _ _ _ hW (hl) h
          · refine lv_aload_n hx hb dX12_copy_50 rfl (lv_at hl 0 rfl) ?_
            refine gM_sorts S hW lk_X12_19 dX12_copy_51 ?_
            refine lv_iload_n hx hb dX12_copy_54 rfl (lv_at hl 2 rfl) ?_
            refine aM_4 S hW h dX12_copy_55 (fun v45 _ h => ?_)
            refine lv_iconst (v := (-1)) hx hb dX12_copy_56 (by decide) ?_
            refine bc_eq (tgt := 79) hx hb h dX12_copy_57 (by decide) (fun _ h => ?_) (fun _ h => ?_)
            · refine lv_iconst (v := 0) hx hb dX12_copy_79 (by decide) ?_
              exact hJ5 0 _ _ _ hW (hl) h
            · refine lv_aload_n hx hb dX12_copy_60 rfl (lv_at hl 0 rfl) ?_
              refine gM_sorts S hW lk_X12_19 dX12_copy_61 ?_
              refine lv_iload_n hx hb dX12_copy_64 rfl (lv_at hl 1 rfl) ?_
              refine aM_4 S hW h dX12_copy_65 (fun v46 _ h => ?_)
              refine lv_aload_n hx hb dX12_copy_66 rfl (lv_at hl 0 rfl) ?_
              refine gM_sorts S hW lk_X12_19 dX12_copy_67 ?_
              refine lv_iload_n hx hb dX12_copy_70 rfl (lv_at hl 2 rfl) ?_
              refine aM_4 S hW h dX12_copy_71 (fun v47 _ h => ?_)
              refine bc_eq (tgt := 79) hx hb h dX12_copy_72 (by decide) (fun _ h => ?_) (fun _ h => ?_)
              · refine lv_iconst (v := 0) hx hb dX12_copy_79 (by decide) ?_
                exact hJ5 0 _ _ _ hW (hl) h
              · refine lv_iconst (v := 1) hx hb dX12_copy_75 (by decide) ?_
                refine lv_goto (tgt := 80) hx hb dX12_copy_76 (by decide) ?_
                exact hJ5 1 _ _ _ hW (hl) h
def rmX12_isRow : Room := { frames := 2, cells := 0, slots := 0, locals := 42 }
def f_X12_isRow (σ : SC) (a1 : Int32) : Option Int32 := if (f_X12_isShelf a1) = 0 then some 0 else ld (ga σ 3) 8 a1 (fun v1 => if (f_X12_in v1 0 3) = 0 then some 0 else some 1)
theorem mi_X12_isRow : MI yX12_isRow cX12_isRow 2 (some .boolean) 1 := ⟨im_X12_isRow, se_X12_isRow, in_X12, co_X12_isRow, by decide, by decide, by decide +kernel⟩
set_option maxRecDepth 100000 in
set_option maxHeartbeats 4000000 in
theorem ct_X12_isRow (l : Launch) (G : EN) (A : Nat → Nat) (σ : SC) (sz : Nat) (a1 : Int32) {r0 : Int32} (h : f_X12_isRow σ a1 = some r0) : CT l yX12_isRow cX12_isRow 2 (some .boolean) rmX12_isRow G sz [.ref (A 0), .int a1] (wM G A σ) (QI G (va_A (wM G A σ) sz) r0 (wM G A σ)) := by
  unfold f_X12_isRow at h
  refine CI.intro (lv := [(0, .ref (A 0)), (1, .int a1)]) (by decide) (Nat.le_of_ble_eq_true rfl) rfl ?_
  intro p e s m args below meth c Q B S hret H locs ls hW hl
  have hx := S.1
  have hb := S.2.1
  refine lv_iload_n hx hb dX12_isRow_0 rfl (lv_at hl 1 rfl) ?_
  refine back_i (rest := []) hW (run_S S hW (ct_X12_isShelf l G A σ _ a1 rfl) ms_X12_isShelf lk_X12_71 rfl rfl hl (Nat.le_of_ble_eq_true rfl) dX12_isRow_1 ⟨Nat.le_of_ble_eq_true rfl, Nat.le_of_ble_eq_true rfl⟩ rfl rfl) (fun H locs hW => ?_)
  refine bz_eq (tgt := 25) hx hb h dX12_isRow_4 (by decide) (fun _ h => ?_) (fun _ h => ?_)
  · refine lv_iconst (v := 0) hx hb dX12_isRow_25 (by decide) ?_
    exact hret H locs _ ls _ (Option.some.inj h) (nar_z (Or.inl rfl)) hW dX12_isRow_26
  · refine lv_aload_n hx hb dX12_isRow_7 rfl (lv_at hl 0 rfl) ?_
    refine gM_sorts S hW lk_X12_19 dX12_isRow_8 ?_
    refine lv_iload_n hx hb dX12_isRow_11 rfl (lv_at hl 1 rfl) ?_
    refine aM_4 S hW h dX12_isRow_12 (fun v1 _ h => ?_)
    refine lv_iconst (v := 0) hx hb dX12_isRow_13 (by decide) ?_
    refine lv_iconst (v := 3) hx hb dX12_isRow_14 (by decide) ?_
    refine back_i (rest := []) hW (run_S S hW (ct_X12_in l G A σ _ v1 0 3 rfl) ms_X12_in lk_X12_67 rfl rfl hl (Nat.le_of_ble_eq_true rfl) dX12_isRow_15 ⟨Nat.le_of_ble_eq_true rfl, Nat.le_of_ble_eq_true rfl⟩ rfl rfl) (fun H locs hW => ?_)
    refine bz_eq (tgt := 25) hx hb h dX12_isRow_18 (by decide) (fun _ h => ?_) (fun _ h => ?_)
    · refine lv_iconst (v := 0) hx hb dX12_isRow_25 (by decide) ?_
      exact hret H locs _ ls _ (Option.some.inj h) (nar_z (Or.inl rfl)) hW dX12_isRow_26
    · refine lv_iconst (v := 1) hx hb dX12_isRow_21 (by decide) ?_
      refine lv_goto (tgt := 26) hx hb dX12_isRow_22 (by decide) ?_
      exact hret H locs _ ls _ (Option.some.inj h) (nar_z (Or.inr rfl)) hW dX12_isRow_26
def rmX12_element : Room := { frames := 3, cells := 0, slots := 0, locals := 63 }
def f_X12_element (σ : SC) (a1 : Int32) (a2 : Int32) : Option Int64 := bd (f_X12_isRow σ a1) (fun v2 => if v2 = 0 then some 0 else ld (ga σ 4) 8 a1 (fun v3 => if (f_X12_in a2 0 (v3 - 1)) = 0 then some 0 else ld (gl σ 0) 1280 ((160 * a1) + a2) (fun v4 => some v4)))
theorem mi_X12_element : MI yX12_element cX12_element 3 (some .long) 2 := ⟨im_X12_element, se_X12_element, in_X12, co_X12_element, by decide, by decide, by decide +kernel⟩
set_option maxRecDepth 100000 in
set_option maxHeartbeats 4000000 in
theorem ct_X12_element (l : Launch) (G : EN) (A : Nat → Nat) (σ : SC) (sz : Nat) (a1 : Int32) (a2 : Int32) {r0 : Int64} (h : f_X12_element σ a1 a2 = some r0) : CT l yX12_element cX12_element 3 (some .long) rmX12_element G sz [.ref (A 0), .int a1, .int a2] (wM G A σ) (QJ G (va_A (wM G A σ) sz) r0 (wM G A σ)) := by
  unfold f_X12_element at h
  refine CJ.intro (lv := [(0, .ref (A 0)), (1, .int a1), (2, .int a2)]) (by decide) (Nat.le_of_ble_eq_true rfl) rfl ?_
  intro p e s m args below meth c Q B S hret H locs ls hW hl
  have hx := S.1
  have hb := S.2.1
  refine lv_aload_n hx hb dX12_element_0 rfl (lv_at hl 0 rfl) ?_
  refine lv_iload_n hx hb dX12_element_1 rfl (lv_at hl 1 rfl) ?_
  obtain ⟨v2, h1, h⟩ := bd_o h
  refine back_i (rest := []) hW (run_V S hW (ct_X12_isRow l G A σ _ a1 h1) mi_X12_isRow lk_X12_82 (eM_0 G A σ) rfl rfl rfl hl (Nat.le_of_ble_eq_true rfl) dX12_element_2 ⟨Nat.le_of_ble_eq_true rfl, Nat.le_of_ble_eq_true rfl⟩ rfl rfl) (fun H locs hW => ?_)
  refine bz_eq (tgt := 39) hx hb h dX12_element_5 (by decide) (fun _ h => ?_) (fun _ h => ?_)
  · refine lv_lconst (v := 0) hx hb dX12_element_39 (by decide) ?_
    exact hret H locs _ ls _ (Option.some.inj h) hW dX12_element_40
  · refine lv_iload_n hx hb dX12_element_8 rfl (lv_at hl 2 rfl) ?_
    refine lv_iconst (v := 0) hx hb dX12_element_9 (by decide) ?_
    refine lv_aload_n hx hb dX12_element_10 rfl (lv_at hl 0 rfl) ?_
    refine gM_sizes S hW lk_X12_22 dX12_element_11 ?_
    refine lv_iload_n hx hb dX12_element_14 rfl (lv_at hl 1 rfl) ?_
    refine aM_5 S hW h dX12_element_15 (fun v3 _ h => ?_)
    refine lv_iconst (v := 1) hx hb dX12_element_16 (by decide) ?_
    refine lv_isub hx hb dX12_element_17 ?_
    refine back_i (rest := []) hW (run_S S hW (ct_X12_in l G A σ _ a2 0 (v3 - 1) rfl) ms_X12_in lk_X12_67 rfl rfl hl (Nat.le_of_ble_eq_true rfl) dX12_element_18 ⟨Nat.le_of_ble_eq_true rfl, Nat.le_of_ble_eq_true rfl⟩ rfl rfl) (fun H locs hW => ?_)
    refine bz_eq (tgt := 39) hx hb h dX12_element_21 (by decide) (fun _ h => ?_) (fun _ h => ?_)
    · refine lv_lconst (v := 0) hx hb dX12_element_39 (by decide) ?_
      exact hret H locs _ ls _ (Option.some.inj h) hW dX12_element_40
    · refine lv_aload_n hx hb dX12_element_24 rfl (lv_at hl 0 rfl) ?_
      refine gM_items S hW lk_X12_25 dX12_element_25 ?_
      refine lv_sipush (v := 160) hx hb dX12_element_28 (by decide) ?_
      refine lv_iload_n hx hb dX12_element_31 rfl (lv_at hl 1 rfl) ?_
      refine lv_imul hx hb dX12_element_32 ?_
      refine lv_iload_n hx hb dX12_element_33 rfl (lv_at hl 2 rfl) ?_
      refine lv_iadd hx hb dX12_element_34 ?_
      refine aM_6 S hW h dX12_element_35 (fun v4 _ h => ?_)
      refine lv_goto (tgt := 40) hx hb dX12_element_36 (by decide) ?_
      exact hret H locs _ ls _ (Option.some.inj h) hW dX12_element_40
def rmX12_show : Room := { frames := 2, cells := 0, slots := 0, locals := 43 }
def f_X12_show (σ : SC) (a1 : Int32) (a2 : Int32) : Option (Int32 × SC) := if (f_X12_isShelf a1) = 0 then bd2 (f_X12_refused σ (-1)) (fun v3 σ2 => some (v3, σ2)) else jn (fun (_ : Unit) => jn (fun (u6 : Int32) => ck 8 a1 (lt (sa σ 3 (upd (ga σ 3) a1.toNatClampNeg u6)) (fun σ7 => jn (fun (u9 : Int32) => ck 8 a1 (lt (sa σ7 4 (upd (ga σ7 4) a1.toNatClampNeg u9)) (fun σ10 => if a2 = (-1) then some (0, σ10) else some (1, σ10)))) (fun J8 => if a2 = (-1) then J8 0 else J8 a2)))) (fun J5 => if a2 = (-1) then J5 (-1) else J5 4)) (fun J4 => if a2 = (-1) then J4 () else bd (f_X12_isAction σ a2) (fun v12 => if v12 = 0 then bd2 (f_X12_refused σ (-1)) (fun v15 σ14 => some (v15, σ14)) else J4 ()))
theorem mi_X12_show : MI yX12_show cX12_show 3 (some .int) 2 := ⟨im_X12_show, se_X12_show, in_X12, co_X12_show, by decide, by decide, by decide +kernel⟩
set_option maxRecDepth 100000 in
set_option maxHeartbeats 4000000 in
theorem ct_X12_show (l : Launch) (G : EN) (A : Nat → Nat) (σ : SC) (sz : Nat) (a1 : Int32) (a2 : Int32) {r0 : Int32} {σ0 : SC} (h : f_X12_show σ a1 a2 = some (r0, σ0)) : CT l yX12_show cX12_show 3 (some .int) rmX12_show G sz [.ref (A 0), .int a1, .int a2] (wM G A σ) (QI G (va_A (wM G A σ) sz) r0 (wM G A σ0)) := by
  unfold f_X12_show at h
  refine CI.intro (lv := [(0, .ref (A 0)), (1, .int a1), (2, .int a2)]) (by decide) (Nat.le_of_ble_eq_true rfl) rfl ?_
  intro p e s m args below meth c Q B S hret H locs ls hW hl
  have hx := S.1
  have hb := S.2.1
  refine lv_iload_n hx hb dX12_show_0 rfl (lv_at hl 1 rfl) ?_
  refine back_i (rest := []) hW (run_S S hW (ct_X12_isShelf l G A σ _ a1 rfl) ms_X12_isShelf lk_X12_71 rfl rfl hl (Nat.le_of_ble_eq_true rfl) dX12_show_1 ⟨Nat.le_of_ble_eq_true rfl, Nat.le_of_ble_eq_true rfl⟩ rfl rfl) (fun H locs hW => ?_)
  refine bz_eq (tgt := 20) hx hb h dX12_show_4 (by decide) (fun _ h => ?_) (fun _ h => ?_)
  · refine lv_aload_n hx hb dX12_show_20 rfl (lv_at hl 0 rfl) ?_
    refine lv_iconst (v := (-1)) hx hb dX12_show_21 (by decide) ?_
    obtain ⟨v3, σ2, h1, h⟩ := bd2_o h
    refine back_i (rest := []) hW (run_V S hW (ct_X12_refused l G A σ _ (-1) h1) mi_X12_refused lk_X12_75 (eM_0 G A σ) rfl rfl rfl hl (Nat.le_of_ble_eq_true rfl) dX12_show_22 ⟨Nat.le_of_ble_eq_true rfl, Nat.le_of_ble_eq_true rfl⟩ rfl rfl) (fun H locs hW => ?_)
    exact ret_is (wf := wM G A) hret h rfl hW dX12_show_25
  · refine lv_iload_n hx hb dX12_show_7 rfl (lv_at hl 2 rfl) ?_
    refine lv_iconst (v := (-1)) hx hb dX12_show_8 (by decide) ?_
    obtain ⟨J4, eJ4, h⟩ := jn_o h
    have hJ4 : ∀   (H : Heap) (locs : List Loc) (ls : Array Slot), WS G B s (wM G A σ) H locs → lv_has ls 3 [(0, .ref (A 0)), (1, .int a1), (2, .int a2)] → J4 () = some (r0, σ0) → W p l e rmX12_show s m args below meth c H locs 0 0 Q (F0 m 26 ls []) := by
      subst eJ4
      intro  H locs ls hW hl h
      refine lv_aload_n hx hb dX12_show_26 rfl (lv_at hl 0 rfl) ?_
      refine gM_sorts S hW lk_X12_19 dX12_show_27 ?_
      refine lv_iload_n hx hb dX12_show_30 rfl (lv_at hl 1 rfl) ?_
      refine lv_iload_n hx hb dX12_show_31 rfl (lv_at hl 2 rfl) ?_
      refine lv_iconst (v := (-1)) hx hb dX12_show_32 (by decide) ?_
      obtain ⟨J5, eJ5, h⟩ := jn_o h
      have hJ5 : ∀ (u6 : Int32)  (H : Heap) (locs : List Loc) (ls : Array Slot), WS G B s (wM G A σ) H locs → lv_has ls 3 [(0, .ref (A 0)), (1, .int a1), (2, .int a2)] → J5 u6 = some (r0, σ0) → W p l e rmX12_show s m args below meth c H locs 0 0 Q (F0 m 41 ls [.int u6, .int a1, .ref (A 4)]) := by
        subst eJ5
        intro u6 H locs ls hW hl h
        refine sM_4 S hW h dX12_show_41 (fun σ7 H locs eσ7 _ h hW => ?_)
        have h := lt_at eσ7 h
        refine lv_aload_n hx hb dX12_show_42 rfl (lv_at hl 0 rfl) ?_
        refine gM_sizes S hW lk_X12_22 dX12_show_43 ?_
        refine lv_iload_n hx hb dX12_show_46 rfl (lv_at hl 1 rfl) ?_
        refine lv_iload_n hx hb dX12_show_47 rfl (lv_at hl 2 rfl) ?_
        refine lv_iconst (v := (-1)) hx hb dX12_show_48 (by decide) ?_
        obtain ⟨J8, eJ8, h⟩ := jn_o h
        have hJ8 : ∀ (u9 : Int32)  (H : Heap) (locs : List Loc) (ls : Array Slot), WS G B s (wM G A σ7) H locs → lv_has ls 3 [(2, .int a2)] → J8 u9 = some (r0, σ0) → W p l e rmX12_show s m args below meth c H locs 0 0 Q (F0 m 57 ls [.int u9, .int a1, .ref (A 5)]) := by
          subst eJ8
          intro u9 H locs ls hW hl h
          refine sM_5 S hW h dX12_show_57 (fun σ10 H locs eσ10 _ h hW => ?_)
          have h := lt_at eσ10 h
          refine lv_iload_n hx hb dX12_show_58 rfl (lv_at hl 0 rfl) ?_
          refine lv_iconst (v := (-1)) hx hb dX12_show_59 (by decide) ?_
          refine bc_ne (tgt := 67) hx hb h dX12_show_60 (by decide) (fun _ h => ?_) (fun _ h => ?_)
          · refine lv_iconst (v := 0) hx hb dX12_show_63 (by decide) ?_
            refine lv_goto (tgt := 68) hx hb dX12_show_64 (by decide) ?_
            exact ret_is (wf := wM G A) hret h rfl hW dX12_show_68
          · refine lv_iconst (v := 1) hx hb dX12_show_67 (by decide) ?_
            exact ret_is (wf := wM G A) hret h rfl hW dX12_show_68
        clear eJ8
        refine bc_ne (tgt := 56) hx hb h dX12_show_49 (by decide) (fun _ h => ?_) (fun _ h => ?_)
        · refine lv_iconst (v := 0) hx hb dX12_show_52 (by decide) ?_
          refine lv_goto (tgt := 57) hx hb dX12_show_53 (by decide) ?_
          exact hJ8 0 _ _ _ hW (lv_sub hl [2] rfl) h
        · refine lv_iload_n hx hb dX12_show_56 rfl (lv_at hl 2 rfl) ?_
          exact hJ8 a2 _ _ _ hW (lv_sub hl [2] rfl) h
      clear eJ5
      refine bc_ne (tgt := 40) hx hb h dX12_show_33 (by decide) (fun _ h => ?_) (fun _ h => ?_)
      · refine lv_iconst (v := (-1)) hx hb dX12_show_36 (by decide) ?_
        refine lv_goto (tgt := 41) hx hb dX12_show_37 (by decide) ?_
        exact hJ5 (-1) _ _ _ hW (hl) h
      · refine lv_iconst (v := 4) hx hb dX12_show_40 (by decide) ?_
        exact hJ5 4 _ _ _ hW (hl) h
    clear eJ4
    refine bc_eq (tgt := 26) hx hb h dX12_show_9 (by decide) (fun _ h => ?_) (fun _ h => ?_)
    · exact hJ4  _ _ _ hW (hl) h
    · refine lv_aload_n hx hb dX12_show_12 rfl (lv_at hl 0 rfl) ?_
      refine lv_iload_n hx hb dX12_show_13 rfl (lv_at hl 2 rfl) ?_
      obtain ⟨v12, h11, h⟩ := bd_o h
      refine back_i (rest := []) hW (run_V S hW (ct_X12_isAction l G A σ _ a2 h11) mi_X12_isAction lk_X12_85 (eM_0 G A σ) rfl rfl rfl hl (Nat.le_of_ble_eq_true rfl) dX12_show_14 ⟨Nat.le_of_ble_eq_true rfl, Nat.le_of_ble_eq_true rfl⟩ rfl rfl) (fun H locs hW => ?_)
      refine bz_ne (tgt := 26) hx hb h dX12_show_17 (by decide) (fun _ h => ?_) (fun _ h => ?_)
      · refine lv_aload_n hx hb dX12_show_20 rfl (lv_at hl 0 rfl) ?_
        refine lv_iconst (v := (-1)) hx hb dX12_show_21 (by decide) ?_
        obtain ⟨v15, σ14, h13, h⟩ := bd2_o h
        refine back_i (rest := []) hW (run_V S hW (ct_X12_refused l G A σ _ (-1) h13) mi_X12_refused lk_X12_75 (eM_0 G A σ) rfl rfl rfl hl (Nat.le_of_ble_eq_true rfl) dX12_show_22 ⟨Nat.le_of_ble_eq_true rfl, Nat.le_of_ble_eq_true rfl⟩ rfl rfl) (fun H locs hW => ?_)
        exact ret_is (wf := wM G A) hret h rfl hW dX12_show_25
      · exact hJ4  _ _ _ hW (hl) h
def rmX12_holds : Room := { frames := 2, cells := 0, slots := 0, locals := 42 }
def f_X12_holds (σ : SC) (a1 : Int32) : Option Int32 := if (f_X12_isShelf a1) = 0 then some (-1) else ld (ga σ 3) 8 a1 (fun v1 => if v1 = (-1) then some (-1) else ld (ga σ 3) 8 a1 (fun v2 => if v2 = 4 then ld (ga σ 4) 8 a1 (fun v4 => some v4) else ld (ga σ 3) 8 a1 (fun v3 => some (100 + v3))))
theorem mi_X12_holds : MI yX12_holds cX12_holds 2 (some .int) 1 := ⟨im_X12_holds, se_X12_holds, in_X12, co_X12_holds, by decide, by decide, by decide +kernel⟩
set_option maxRecDepth 100000 in
set_option maxHeartbeats 4000000 in
theorem ct_X12_holds (l : Launch) (G : EN) (A : Nat → Nat) (σ : SC) (sz : Nat) (a1 : Int32) {r0 : Int32} (h : f_X12_holds σ a1 = some r0) : CT l yX12_holds cX12_holds 2 (some .int) rmX12_holds G sz [.ref (A 0), .int a1] (wM G A σ) (QI G (va_A (wM G A σ) sz) r0 (wM G A σ)) := by
  unfold f_X12_holds at h
  refine CI.intro (lv := [(0, .ref (A 0)), (1, .int a1)]) (by decide) (Nat.le_of_ble_eq_true rfl) rfl ?_
  intro p e s m args below meth c Q B S hret H locs ls hW hl
  have hx := S.1
  have hb := S.2.1
  refine lv_iload_n hx hb dX12_holds_0 rfl (lv_at hl 1 rfl) ?_
  refine back_i (rest := []) hW (run_S S hW (ct_X12_isShelf l G A σ _ a1 rfl) ms_X12_isShelf lk_X12_71 rfl rfl hl (Nat.le_of_ble_eq_true rfl) dX12_holds_1 ⟨Nat.le_of_ble_eq_true rfl, Nat.le_of_ble_eq_true rfl⟩ rfl rfl) (fun H locs hW => ?_)
  refine bz_eq (tgt := 17) hx hb h dX12_holds_4 (by decide) (fun _ h => ?_) (fun _ h => ?_)
  · refine lv_iconst (v := (-1)) hx hb dX12_holds_17 (by decide) ?_
    refine lv_goto (tgt := 49) hx hb dX12_holds_18 (by decide) ?_
    exact hret H locs _ ls _ (Option.some.inj h) rfl hW dX12_holds_49
  · refine lv_aload_n hx hb dX12_holds_7 rfl (lv_at hl 0 rfl) ?_
    refine gM_sorts S hW lk_X12_19 dX12_holds_8 ?_
    refine lv_iload_n hx hb dX12_holds_11 rfl (lv_at hl 1 rfl) ?_
    refine aM_4 S hW h dX12_holds_12 (fun v1 _ h => ?_)
    refine lv_iconst (v := (-1)) hx hb dX12_holds_13 (by decide) ?_
    refine bc_ne (tgt := 21) hx hb h dX12_holds_14 (by decide) (fun _ h => ?_) (fun _ h => ?_)
    · refine lv_iconst (v := (-1)) hx hb dX12_holds_17 (by decide) ?_
      refine lv_goto (tgt := 49) hx hb dX12_holds_18 (by decide) ?_
      exact hret H locs _ ls _ (Option.some.inj h) rfl hW dX12_holds_49
    · refine lv_aload_n hx hb dX12_holds_21 rfl (lv_at hl 0 rfl) ?_
      refine gM_sorts S hW lk_X12_19 dX12_holds_22 ?_
      refine lv_iload_n hx hb dX12_holds_25 rfl (lv_at hl 1 rfl) ?_
      refine aM_4 S hW h dX12_holds_26 (fun v2 _ h => ?_)
      refine lv_iconst (v := 4) hx hb dX12_holds_27 (by decide) ?_
      refine bc_ne (tgt := 40) hx hb h dX12_holds_28 (by decide) (fun _ h => ?_) (fun _ h => ?_)
      · refine lv_aload_n hx hb dX12_holds_31 rfl (lv_at hl 0 rfl) ?_
        refine gM_sizes S hW lk_X12_22 dX12_holds_32 ?_
        refine lv_iload_n hx hb dX12_holds_35 rfl (lv_at hl 1 rfl) ?_
        refine aM_5 S hW h dX12_holds_36 (fun v4 _ h => ?_)
        refine lv_goto (tgt := 49) hx hb dX12_holds_37 (by decide) ?_
        exact hret H locs _ ls _ (Option.some.inj h) rfl hW dX12_holds_49
      · refine lv_bipush (v := 100) hx hb dX12_holds_40 (by decide) ?_
        refine lv_aload_n hx hb dX12_holds_42 rfl (lv_at hl 0 rfl) ?_
        refine gM_sorts S hW lk_X12_19 dX12_holds_43 ?_
        refine lv_iload_n hx hb dX12_holds_46 rfl (lv_at hl 1 rfl) ?_
        refine aM_4 S hW h dX12_holds_47 (fun v3 _ h => ?_)
        refine lv_iadd hx hb dX12_holds_48 ?_
        exact hret H locs _ ls _ (Option.some.inj h) rfl hW dX12_holds_49
def rmX12_plain (n : Nat) : Room := { frames := n, cells := 0, slots := 0, locals := 21 * n }
def f_X12_plain : Nat → SC → Int32 → Option Int32
  | 0, _, _ => none
  | n + 1, σ, a1 => ld (ga σ 0) 173 (96 + a1) (fun v1 => if v1 = 0 then some 1 else ld (ga σ 0) 173 (120 + a1) (fun v2 => bd (f_X12_plain n σ v2) (fun v4 => ld (ga σ 0) 173 (144 + a1) (fun v5 => bd (f_X12_plain n σ v5) (fun v7 => some (v4 + v7))))))
theorem mi_X12_plain : MI yX12_plain cX12_plain 2 (some .int) 1 := ⟨im_X12_plain, se_X12_plain, in_X12, co_X12_plain, by decide, by decide, by decide +kernel⟩
set_option maxRecDepth 100000 in
set_option maxHeartbeats 4000000 in
theorem ct_X12_plain (l : Launch) (G : EN) (A : Nat → Nat) : ∀ (n : Nat) (σ : SC) (sz : Nat) (a1 : Int32) {r0 : Int32}, f_X12_plain n σ a1 = some r0 → CT l yX12_plain cX12_plain 2 (some .int) (rmX12_plain n) G sz [.ref (A 0), .int a1] (wM G A σ) (QI G (va_A (wM G A σ) sz) r0 (wM G A σ)) := by
  intro n
  induction n with
  | zero => intro σ sz a1 r0 h; cases h
  | succ n ih =>
  intro σ sz a1 r0 h
  rw [f_X12_plain] at h
  refine CI.intro (lv := [(0, .ref (A 0)), (1, .int a1)]) (by decide) (Nat.le_of_ble_eq_true rfl) rfl ?_
  intro p e s m args below meth c Q B S hret H locs ls hW hl
  have hx := S.1
  have hb := S.2.1
  refine lv_aload_n hx hb dX12_plain_0 rfl (lv_at hl 0 rfl) ?_
  refine gM_s S hW lk_X12_7 dX12_plain_1 ?_
  refine lv_bipush (v := 96) hx hb dX12_plain_4 (by decide) ?_
  refine lv_iload_n hx hb dX12_plain_6 rfl (lv_at hl 1 rfl) ?_
  refine lv_iadd hx hb dX12_plain_7 ?_
  refine aM_1 S hW h dX12_plain_8 (fun v1 _ h => ?_)
  refine bz_ne (tgt := 16) hx hb h dX12_plain_9 (by decide) (fun _ h => ?_) (fun _ h => ?_)
  · refine lv_iconst (v := 1) hx hb dX12_plain_12 (by decide) ?_
    refine lv_goto (tgt := 44) hx hb dX12_plain_13 (by decide) ?_
    exact hret H locs _ ls _ (Option.some.inj h) rfl hW dX12_plain_44
  · refine lv_aload_n hx hb dX12_plain_16 rfl (lv_at hl 0 rfl) ?_
    refine lv_aload_n hx hb dX12_plain_17 rfl (lv_at hl 0 rfl) ?_
    refine gM_s S hW lk_X12_7 dX12_plain_18 ?_
    refine lv_bipush (v := 120) hx hb dX12_plain_21 (by decide) ?_
    refine lv_iload_n hx hb dX12_plain_23 rfl (lv_at hl 1 rfl) ?_
    refine lv_iadd hx hb dX12_plain_24 ?_
    refine aM_1 S hW h dX12_plain_25 (fun v2 _ h => ?_)
    obtain ⟨v4, h3, h⟩ := bd_o h
    refine back_i (rest := []) hW (run_V S hW (ih σ _ v2 h3) mi_X12_plain lk_X12_88 (eM_0 G A σ) rfl rfl rfl hl (Nat.le_of_ble_eq_true rfl) dX12_plain_26 ⟨Nat.le_refl _, by show 8 + (2 + 11) + 21 * n ≤ 21 * (n + 1); omega⟩ rfl rfl) (fun H locs hW => ?_)
    refine lv_aload_n hx hb dX12_plain_29 rfl (lv_at hl 0 rfl) ?_
    refine lv_aload_n hx hb dX12_plain_30 rfl (lv_at hl 0 rfl) ?_
    refine gM_s S hW lk_X12_7 dX12_plain_31 ?_
    refine lv_sipush (v := 144) hx hb dX12_plain_34 (by decide) ?_
    refine lv_iload_n hx hb dX12_plain_37 rfl (lv_at hl 1 rfl) ?_
    refine lv_iadd hx hb dX12_plain_38 ?_
    refine aM_1 S hW h dX12_plain_39 (fun v5 _ h => ?_)
    obtain ⟨v7, h6, h⟩ := bd_o h
    refine back_i (rest := [.int v4]) hW (run_V S hW (ih σ _ v5 h6) mi_X12_plain lk_X12_88 (eM_0 G A σ) rfl rfl rfl hl (Nat.le_of_ble_eq_true rfl) dX12_plain_40 ⟨Nat.le_refl _, by show 8 + (2 + 11) + 21 * n ≤ 21 * (n + 1); omega⟩ rfl rfl) (fun H locs hW => ?_)
    refine lv_iadd hx hb dX12_plain_43 ?_
    exact hret H locs _ ls _ (Option.some.inj h) rfl hW dX12_plain_44
def rmX12_says : Room := { frames := 31, cells := 0, slots := 0, locals := 651 }
def f_X12_says (σ : SC) (a1 : Int32) (a2 : Int32) : Option (Int32 × SC) := if (f_X12_isShelf a1) = 0 then bd2 (f_X12_refused σ (-1)) (fun v3 σ2 => some (v3, σ2)) else if (f_X12_in a2 0 2) = 0 then bd2 (f_X12_refused σ (-1)) (fun v27 σ26 => some (v27, σ26)) else ld (ga σ 3) 8 a1 (fun v4 => if (f_X12_in v4 0 3) = 0 then ld (ga σ 3) 8 a1 (fun v8 => jn (fun (_ : Unit) => ld (ga σ 3) 8 a1 (fun v10 => if v10 = (-1) then bd2 (f_X12_refused σ (-3)) (fun v19 σ18 => some (v19, σ18)) else ld (ga σ 4) 8 a1 (fun v11 => if a2 = 0 then ld (ga σ 0) 173 (72 + v11) (fun v16 => some (v16, σ)) else if a2 = 1 then ld (ga σ 0) 173 (120 + v11) (fun v14 => ld (ga σ 0) 173 (144 + v11) (fun v15 => some (((100 * v14) + v15), σ))) else bd (f_X12_plain 30 σ v11) (fun v13 => some (v13, σ))))) (fun J9 => if v8 = 4 then ld (ga σ 4) 8 a1 (fun v20 => ld (ga σ 0) 173 (96 + v20) (fun v21 => if a2 ≤ v21 then J9 () else bd2 (f_X12_refused σ (-2)) (fun v24 σ23 => some (v24, σ23)))) else J9 ())) else bd2 (f_X12_refused σ (-2)) (fun v7 σ6 => some (v7, σ6)))
theorem mi_X12_says : MI yX12_says cX12_says 4 (some .int) 2 := ⟨im_X12_says, se_X12_says, in_X12, co_X12_says, by decide, by decide, by decide +kernel⟩
set_option maxRecDepth 100000 in
set_option maxHeartbeats 4000000 in
theorem ct_X12_says (l : Launch) (G : EN) (A : Nat → Nat) (σ : SC) (sz : Nat) (a1 : Int32) (a2 : Int32) {r0 : Int32} {σ0 : SC} (h : f_X12_says σ a1 a2 = some (r0, σ0)) : CT l yX12_says cX12_says 4 (some .int) rmX12_says G sz [.ref (A 0), .int a1, .int a2] (wM G A σ) (QI G (va_A (wM G A σ) sz) r0 (wM G A σ0)) := by
  unfold f_X12_says at h
  refine CI.intro (lv := [(0, .ref (A 0)), (1, .int a1), (2, .int a2)]) (by decide) (Nat.le_of_ble_eq_true rfl) rfl ?_
  intro p e s m args below meth c Q B S hret H locs ls hW hl
  have hx := S.1
  have hb := S.2.1
  refine lv_iload_n hx hb dX12_says_0 rfl (lv_at hl 1 rfl) ?_
  refine back_i (rest := []) hW (run_S S hW (ct_X12_isShelf l G A σ _ a1 rfl) ms_X12_isShelf lk_X12_71 rfl rfl hl (Nat.le_of_ble_eq_true rfl) dX12_says_1 ⟨Nat.le_of_ble_eq_true rfl, Nat.le_of_ble_eq_true rfl⟩ rfl rfl) (fun H locs hW => ?_)
  refine bz_eq (tgt := 16) hx hb h dX12_says_4 (by decide) (fun _ h => ?_) (fun _ h => ?_)
  · refine lv_aload_n hx hb dX12_says_16 rfl (lv_at hl 0 rfl) ?_
    refine lv_iconst (v := (-1)) hx hb dX12_says_17 (by decide) ?_
    obtain ⟨v3, σ2, h1, h⟩ := bd2_o h
    refine back_i (rest := []) hW (run_V S hW (ct_X12_refused l G A σ _ (-1) h1) mi_X12_refused lk_X12_75 (eM_0 G A σ) rfl rfl rfl hl (Nat.le_of_ble_eq_true rfl) dX12_says_18 ⟨Nat.le_of_ble_eq_true rfl, Nat.le_of_ble_eq_true rfl⟩ rfl rfl) (fun H locs hW => ?_)
    exact ret_is (wf := wM G A) hret h rfl hW dX12_says_21
  · refine lv_iload_n hx hb dX12_says_7 rfl (lv_at hl 2 rfl) ?_
    refine lv_iconst (v := 0) hx hb dX12_says_8 (by decide) ?_
    refine lv_iconst (v := 2) hx hb dX12_says_9 (by decide) ?_
    refine back_i (rest := []) hW (run_S S hW (ct_X12_in l G A σ _ a2 0 2 rfl) ms_X12_in lk_X12_67 rfl rfl hl (Nat.le_of_ble_eq_true rfl) dX12_says_10 ⟨Nat.le_of_ble_eq_true rfl, Nat.le_of_ble_eq_true rfl⟩ rfl rfl) (fun H locs hW => ?_)
    refine bz_ne (tgt := 22) hx hb h dX12_says_13 (by decide) (fun _ h => ?_) (fun _ h => ?_)
    · refine lv_aload_n hx hb dX12_says_16 rfl (lv_at hl 0 rfl) ?_
      refine lv_iconst (v := (-1)) hx hb dX12_says_17 (by decide) ?_
      obtain ⟨v27, σ26, h25, h⟩ := bd2_o h
      refine back_i (rest := []) hW (run_V S hW (ct_X12_refused l G A σ _ (-1) h25) mi_X12_refused lk_X12_75 (eM_0 G A σ) rfl rfl rfl hl (Nat.le_of_ble_eq_true rfl) dX12_says_18 ⟨Nat.le_of_ble_eq_true rfl, Nat.le_of_ble_eq_true rfl⟩ rfl rfl) (fun H locs hW => ?_)
      exact ret_is (wf := wM G A) hret h rfl hW dX12_says_21
    · refine lv_aload_n hx hb dX12_says_22 rfl (lv_at hl 0 rfl) ?_
      refine gM_sorts S hW lk_X12_19 dX12_says_23 ?_
      refine lv_iload_n hx hb dX12_says_26 rfl (lv_at hl 1 rfl) ?_
      refine aM_4 S hW h dX12_says_27 (fun v4 _ h => ?_)
      refine lv_iconst (v := 0) hx hb dX12_says_28 (by decide) ?_
      refine lv_iconst (v := 3) hx hb dX12_says_29 (by decide) ?_
      refine back_i (rest := []) hW (run_S S hW (ct_X12_in l G A σ _ v4 0 3 rfl) ms_X12_in lk_X12_67 rfl rfl hl (Nat.le_of_ble_eq_true rfl) dX12_says_30 ⟨Nat.le_of_ble_eq_true rfl, Nat.le_of_ble_eq_true rfl⟩ rfl rfl) (fun H locs hW => ?_)
      refine bz_ne (tgt := 64) hx hb h dX12_says_33 (by decide) (fun _ h => ?_) (fun _ h => ?_)
      · refine lv_aload_n hx hb dX12_says_36 rfl (lv_at hl 0 rfl) ?_
        refine gM_sorts S hW lk_X12_19 dX12_says_37 ?_
        refine lv_iload_n hx hb dX12_says_40 rfl (lv_at hl 1 rfl) ?_
        refine aM_4 S hW h dX12_says_41 (fun v8 _ h => ?_)
        refine lv_iconst (v := 4) hx hb dX12_says_42 (by decide) ?_
        obtain ⟨J9, eJ9, h⟩ := jn_o h
        have hJ9 : ∀   (H : Heap) (locs : List Loc) (ls : Array Slot), WS G B s (wM G A σ) H locs → lv_has ls 4 [(0, .ref (A 0)), (1, .int a1), (2, .int a2)] → J9 () = some (r0, σ0) → W p l e rmX12_says s m args below meth c H locs 0 0 Q (F0 m 71 ls []) := by
          subst eJ9
          intro  H locs ls hW hl h
          refine lv_aload_n hx hb dX12_says_71 rfl (lv_at hl 0 rfl) ?_
          refine gM_sorts S hW lk_X12_19 dX12_says_72 ?_
          refine lv_iload_n hx hb dX12_says_75 rfl (lv_at hl 1 rfl) ?_
          refine aM_4 S hW h dX12_says_76 (fun v10 _ h => ?_)
          refine lv_iconst (v := (-1)) hx hb dX12_says_77 (by decide) ?_
          refine bc_ne (tgt := 88) hx hb h dX12_says_78 (by decide) (fun _ h => ?_) (fun _ h => ?_)
          · refine lv_aload_n hx hb dX12_says_81 rfl (lv_at hl 0 rfl) ?_
            refine lv_bipush (v := (-3)) hx hb dX12_says_82 (by decide) ?_
            obtain ⟨v19, σ18, h17, h⟩ := bd2_o h
            refine back_i (rest := []) hW (run_V S hW (ct_X12_refused l G A σ _ (-3) h17) mi_X12_refused lk_X12_75 (eM_0 G A σ) rfl rfl rfl hl (Nat.le_of_ble_eq_true rfl) dX12_says_84 ⟨Nat.le_of_ble_eq_true rfl, Nat.le_of_ble_eq_true rfl⟩ rfl rfl) (fun H locs hW => ?_)
            exact ret_is (wf := wM G A) hret h rfl hW dX12_says_87
          · refine lv_aload_n hx hb dX12_says_88 rfl (lv_at hl 0 rfl) ?_
            refine gM_sizes S hW lk_X12_22 dX12_says_89 ?_
            refine lv_iload_n hx hb dX12_says_92 rfl (lv_at hl 1 rfl) ?_
            refine aM_5 S hW h dX12_says_93 (fun v11 _ h => ?_)
            refine lv_istore_n (lv' := [(3, .int v11), (0, .ref (A 0)), (1, .int a1), (2, .int a2)]) hx hb dX12_says_94 rfl hl (by decide) rfl (fun ls hl => ?_)
            refine lv_iload_n hx hb dX12_says_95 rfl (lv_at hl 3 rfl) ?_
            refine bz_ne (tgt := 111) hx hb h dX12_says_96 (by decide) (fun _ h => ?_) (fun _ h => ?_)
            · refine lv_aload_n hx hb dX12_says_99 rfl (lv_at hl 1 rfl) ?_
              refine gM_s S hW lk_X12_7 dX12_says_100 ?_
              refine lv_bipush (v := 72) hx hb dX12_says_103 (by decide) ?_
              refine lv_iload_n hx hb dX12_says_105 rfl (lv_at hl 0 rfl) ?_
              refine lv_iadd hx hb dX12_says_106 ?_
              refine aM_1 S hW h dX12_says_107 (fun v16 _ h => ?_)
              refine lv_goto (tgt := 147) hx hb dX12_says_108 (by decide) ?_
              exact ret_is (wf := wM G A) hret h rfl hW dX12_says_147
            · refine lv_iload_n hx hb dX12_says_111 rfl (lv_at hl 3 rfl) ?_
              refine lv_iconst (v := 1) hx hb dX12_says_112 (by decide) ?_
              refine bc_ne (tgt := 142) hx hb h dX12_says_113 (by decide) (fun _ h => ?_) (fun _ h => ?_)
              · refine lv_bipush (v := 100) hx hb dX12_says_116 (by decide) ?_
                refine lv_aload_n hx hb dX12_says_118 rfl (lv_at hl 1 rfl) ?_
                refine gM_s S hW lk_X12_7 dX12_says_119 ?_
                refine lv_bipush (v := 120) hx hb dX12_says_122 (by decide) ?_
                refine lv_iload_n hx hb dX12_says_124 rfl (lv_at hl 0 rfl) ?_
                refine lv_iadd hx hb dX12_says_125 ?_
                refine aM_1 S hW h dX12_says_126 (fun v14 _ h => ?_)
                refine lv_imul hx hb dX12_says_127 ?_
                refine lv_aload_n hx hb dX12_says_128 rfl (lv_at hl 1 rfl) ?_
                refine gM_s S hW lk_X12_7 dX12_says_129 ?_
                refine lv_sipush (v := 144) hx hb dX12_says_132 (by decide) ?_
                refine lv_iload_n hx hb dX12_says_135 rfl (lv_at hl 0 rfl) ?_
                refine lv_iadd hx hb dX12_says_136 ?_
                refine aM_1 S hW h dX12_says_137 (fun v15 _ h => ?_)
                refine lv_iadd hx hb dX12_says_138 ?_
                refine lv_goto (tgt := 147) hx hb dX12_says_139 (by decide) ?_
                exact ret_is (wf := wM G A) hret h rfl hW dX12_says_147
              · refine lv_aload_n hx hb dX12_says_142 rfl (lv_at hl 1 rfl) ?_
                refine lv_iload_n hx hb dX12_says_143 rfl (lv_at hl 0 rfl) ?_
                obtain ⟨v13, h12, h⟩ := bd_o h
                refine back_i (rest := []) hW (run_V S hW (ct_X12_plain l G A 30 σ _ v11 h12) mi_X12_plain lk_X12_88 (eM_0 G A σ) rfl rfl rfl hl (Nat.le_of_ble_eq_true rfl) dX12_says_144 ⟨Nat.le_of_ble_eq_true rfl, Nat.le_of_ble_eq_true rfl⟩ rfl rfl) (fun H locs hW => ?_)
                exact ret_is (wf := wM G A) hret h rfl hW dX12_says_147
        clear eJ9
        refine bc_ne (tgt := 71) hx hb h dX12_says_43 (by decide) (fun _ h => ?_) (fun _ h => ?_)
        · refine lv_aload_n hx hb dX12_says_46 rfl (lv_at hl 0 rfl) ?_
          refine gM_s S hW lk_X12_7 dX12_says_47 ?_
          refine lv_bipush (v := 96) hx hb dX12_says_50 (by decide) ?_
          refine lv_aload_n hx hb dX12_says_52 rfl (lv_at hl 0 rfl) ?_
          refine gM_sizes S hW lk_X12_22 dX12_says_53 ?_
          refine lv_iload_n hx hb dX12_says_56 rfl (lv_at hl 1 rfl) ?_
          refine aM_5 S hW h dX12_says_57 (fun v20 _ h => ?_)
          refine lv_iadd hx hb dX12_says_58 ?_
          refine aM_1 S hW h dX12_says_59 (fun v21 _ h => ?_)
          refine lv_iload_n hx hb dX12_says_60 rfl (lv_at hl 2 rfl) ?_
          refine bc_ge (tgt := 71) hx hb h dX12_says_61 (by decide) (fun _ h => ?_) (fun _ h => ?_)
          · exact hJ9  _ _ _ hW (hl) h
          · refine lv_aload_n hx hb dX12_says_64 rfl (lv_at hl 0 rfl) ?_
            refine lv_bipush (v := (-2)) hx hb dX12_says_65 (by decide) ?_
            obtain ⟨v24, σ23, h22, h⟩ := bd2_o h
            refine back_i (rest := []) hW (run_V S hW (ct_X12_refused l G A σ _ (-2) h22) mi_X12_refused lk_X12_75 (eM_0 G A σ) rfl rfl rfl hl (Nat.le_of_ble_eq_true rfl) dX12_says_67 ⟨Nat.le_of_ble_eq_true rfl, Nat.le_of_ble_eq_true rfl⟩ rfl rfl) (fun H locs hW => ?_)
            exact ret_is (wf := wM G A) hret h rfl hW dX12_says_70
        · exact hJ9  _ _ _ hW (hl) h
      · refine lv_aload_n hx hb dX12_says_64 rfl (lv_at hl 0 rfl) ?_
        refine lv_bipush (v := (-2)) hx hb dX12_says_65 (by decide) ?_
        obtain ⟨v7, σ6, h5, h⟩ := bd2_o h
        refine back_i (rest := []) hW (run_V S hW (ct_X12_refused l G A σ _ (-2) h5) mi_X12_refused lk_X12_75 (eM_0 G A σ) rfl rfl rfl hl (Nat.le_of_ble_eq_true rfl) dX12_says_67 ⟨Nat.le_of_ble_eq_true rfl, Nat.le_of_ble_eq_true rfl⟩ rfl rfl) (fun H locs hW => ?_)
        exact ret_is (wf := wM G A) hret h rfl hW dX12_says_70
def rmX12_comes : Room := { frames := 0, cells := 0, slots := 0, locals := 0 }
def f_X12_comes (σ : SC) (a1 : Int32) (a2 : Int32) (a3 : Int32) (a4 : Int32) (a5 : Int32) (a6 : Int32) (a7 : Int32) : Option (Int32 × SC) := ld (ga σ 0) 173 172 (fun v1 => ck 173 (0 + v1) (lt (sa σ 0 (upd (ga σ 0) (0 + v1).toNatClampNeg a1)) (fun σ2 => ck 173 (24 + v1) (lt (sa σ2 0 (upd (ga σ2 0) (24 + v1).toNatClampNeg a2)) (fun σ3 => ck 173 (48 + v1) (lt (sa σ3 0 (upd (ga σ3 0) (48 + v1).toNatClampNeg a3)) (fun σ4 => ck 173 (72 + v1) (lt (sa σ4 0 (upd (ga σ4 0) (72 + v1).toNatClampNeg a4)) (fun σ5 => ck 173 (96 + v1) (lt (sa σ5 0 (upd (ga σ5 0) (96 + v1).toNatClampNeg a5)) (fun σ6 => ck 173 (120 + v1) (lt (sa σ6 0 (upd (ga σ6 0) (120 + v1).toNatClampNeg a6)) (fun σ7 => ck 173 (144 + v1) (lt (sa σ7 0 (upd (ga σ7 0) (144 + v1).toNatClampNeg a7)) (fun σ8 => ld (ga σ8 0) 173 172 (fun v9 => ck 173 172 (lt (sa σ8 0 (upd (ga σ8 0) (172 : Int32).toNatClampNeg (v9 + 1))) (fun σ10 => some (v1, σ10)))))))))))))))))))
theorem mi_X12_comes : MI yX12_comes cX12_comes 9 (some .int) 7 := ⟨im_X12_comes, se_X12_comes, in_X12, co_X12_comes, by decide, by decide, by decide +kernel⟩
set_option maxRecDepth 100000 in
set_option maxHeartbeats 4000000 in
theorem ct_X12_comes (l : Launch) (G : EN) (A : Nat → Nat) (σ : SC) (sz : Nat) (a1 : Int32) (a2 : Int32) (a3 : Int32) (a4 : Int32) (a5 : Int32) (a6 : Int32) (a7 : Int32) {r0 : Int32} {σ0 : SC} (h : f_X12_comes σ a1 a2 a3 a4 a5 a6 a7 = some (r0, σ0)) : CT l yX12_comes cX12_comes 9 (some .int) rmX12_comes G sz [.ref (A 0), .int a1, .int a2, .int a3, .int a4, .int a5, .int a6, .int a7] (wM G A σ) (QI G (va_A (wM G A σ) sz) r0 (wM G A σ0)) := by
  unfold f_X12_comes at h
  refine CI.intro (lv := [(0, .ref (A 0)), (1, .int a1), (2, .int a2), (3, .int a3), (4, .int a4), (5, .int a5), (6, .int a6), (7, .int a7)]) (by decide) (Nat.le_of_ble_eq_true rfl) rfl ?_
  intro p e s m args below meth c Q B S hret H locs ls hW hl
  have hx := S.1
  have hb := S.2.1
  refine lv_aload_n hx hb dX12_comes_0 rfl (lv_at hl 0 rfl) ?_
  refine gM_s S hW lk_X12_7 dX12_comes_1 ?_
  refine lv_sipush (v := 172) hx hb dX12_comes_4 (by decide) ?_
  refine aM_1 S hW h dX12_comes_7 (fun v1 _ h => ?_)
  refine lv_istore (lv' := [(8, .int v1), (0, .ref (A 0)), (1, .int a1), (2, .int a2), (3, .int a3), (4, .int a4), (5, .int a5), (6, .int a6), (7, .int a7)]) hx hb dX12_comes_8 hl (by decide) rfl (fun ls hl => ?_)
  refine lv_aload_n hx hb dX12_comes_10 rfl (lv_at hl 1 rfl) ?_
  refine gM_s S hW lk_X12_7 dX12_comes_11 ?_
  refine lv_iconst (v := 0) hx hb dX12_comes_14 (by decide) ?_
  refine lv_iload hx hb dX12_comes_15 (lv_at hl 0 rfl) ?_
  refine lv_iadd hx hb dX12_comes_17 ?_
  refine lv_iload_n hx hb dX12_comes_18 rfl (lv_at hl 2 rfl) ?_
  refine sM_1 S hW h dX12_comes_19 (fun σ2 H locs eσ2 _ h hW => ?_)
  have h := lt_at eσ2 h
  refine lv_aload_n hx hb dX12_comes_20 rfl (lv_at hl 1 rfl) ?_
  refine gM_s S hW lk_X12_7 dX12_comes_21 ?_
  refine lv_bipush (v := 24) hx hb dX12_comes_24 (by decide) ?_
  refine lv_iload hx hb dX12_comes_26 (lv_at hl 0 rfl) ?_
  refine lv_iadd hx hb dX12_comes_28 ?_
  refine lv_iload_n hx hb dX12_comes_29 rfl (lv_at hl 3 rfl) ?_
  refine sM_1 S hW h dX12_comes_30 (fun σ3 H locs eσ3 _ h hW => ?_)
  have h := lt_at eσ3 h
  refine lv_aload_n hx hb dX12_comes_31 rfl (lv_at hl 1 rfl) ?_
  refine gM_s S hW lk_X12_7 dX12_comes_32 ?_
  refine lv_bipush (v := 48) hx hb dX12_comes_35 (by decide) ?_
  refine lv_iload hx hb dX12_comes_37 (lv_at hl 0 rfl) ?_
  refine lv_iadd hx hb dX12_comes_39 ?_
  refine lv_iload_n hx hb dX12_comes_40 rfl (lv_at hl 4 rfl) ?_
  refine sM_1 S hW h dX12_comes_41 (fun σ4 H locs eσ4 _ h hW => ?_)
  have h := lt_at eσ4 h
  refine lv_aload_n hx hb dX12_comes_42 rfl (lv_at hl 1 rfl) ?_
  refine gM_s S hW lk_X12_7 dX12_comes_43 ?_
  refine lv_bipush (v := 72) hx hb dX12_comes_46 (by decide) ?_
  refine lv_iload hx hb dX12_comes_48 (lv_at hl 0 rfl) ?_
  refine lv_iadd hx hb dX12_comes_50 ?_
  refine lv_iload hx hb dX12_comes_51 (lv_at hl 5 rfl) ?_
  refine sM_1 S hW h dX12_comes_53 (fun σ5 H locs eσ5 _ h hW => ?_)
  have h := lt_at eσ5 h
  refine lv_aload_n hx hb dX12_comes_54 rfl (lv_at hl 1 rfl) ?_
  refine gM_s S hW lk_X12_7 dX12_comes_55 ?_
  refine lv_bipush (v := 96) hx hb dX12_comes_58 (by decide) ?_
  refine lv_iload hx hb dX12_comes_60 (lv_at hl 0 rfl) ?_
  refine lv_iadd hx hb dX12_comes_62 ?_
  refine lv_iload hx hb dX12_comes_63 (lv_at hl 6 rfl) ?_
  refine sM_1 S hW h dX12_comes_65 (fun σ6 H locs eσ6 _ h hW => ?_)
  have h := lt_at eσ6 h
  refine lv_aload_n hx hb dX12_comes_66 rfl (lv_at hl 1 rfl) ?_
  refine gM_s S hW lk_X12_7 dX12_comes_67 ?_
  refine lv_bipush (v := 120) hx hb dX12_comes_70 (by decide) ?_
  refine lv_iload hx hb dX12_comes_72 (lv_at hl 0 rfl) ?_
  refine lv_iadd hx hb dX12_comes_74 ?_
  refine lv_iload hx hb dX12_comes_75 (lv_at hl 7 rfl) ?_
  refine sM_1 S hW h dX12_comes_77 (fun σ7 H locs eσ7 _ h hW => ?_)
  have h := lt_at eσ7 h
  refine lv_aload_n hx hb dX12_comes_78 rfl (lv_at hl 1 rfl) ?_
  refine gM_s S hW lk_X12_7 dX12_comes_79 ?_
  refine lv_sipush (v := 144) hx hb dX12_comes_82 (by decide) ?_
  refine lv_iload hx hb dX12_comes_85 (lv_at hl 0 rfl) ?_
  refine lv_iadd hx hb dX12_comes_87 ?_
  refine lv_iload hx hb dX12_comes_88 (lv_at hl 8 rfl) ?_
  refine sM_1 S hW h dX12_comes_90 (fun σ8 H locs eσ8 _ h hW => ?_)
  have h := lt_at eσ8 h
  refine lv_aload_n hx hb dX12_comes_91 rfl (lv_at hl 1 rfl) ?_
  refine gM_s S hW lk_X12_7 dX12_comes_92 ?_
  refine lv_sipush (v := 172) hx hb dX12_comes_95 (by decide) ?_
  refine lv_dup2_11 hx hb dX12_comes_98 rfl rfl ?_
  refine aM_1 S hW h dX12_comes_99 (fun v9 _ h => ?_)
  refine lv_iconst (v := 1) hx hb dX12_comes_100 (by decide) ?_
  refine lv_iadd hx hb dX12_comes_101 ?_
  refine sM_1 S hW h dX12_comes_102 (fun σ10 H locs eσ10 _ h hW => ?_)
  have h := lt_at eσ10 h
  refine lv_iload hx hb dX12_comes_103 (lv_at hl 0 rfl) ?_
  exact ret_is (wf := wM G A) hret h rfl hW dX12_comes_105
def rmX12_action : Room := { frames := 2, cells := 0, slots := 0, locals := 42 }
def f_X12_action (σ : SC) (a1 : Int32) (a2 : Int32) (a3 : Int32) (a4 : Int32) : Option (Int32 × SC) := if (f_X12_isSet a1) = 0 then bd2 (f_X12_refused σ (-6)) (fun v3 σ2 => some (v3, σ2)) else if (f_X12_isSet a2) = 0 then bd2 (f_X12_refused σ (-6)) (fun v6 σ5 => some (v6, σ5)) else if (f_X12_isSet a3) = 0 then bd2 (f_X12_refused σ (-6)) (fun v9 σ8 => some (v9, σ8)) else if (f_X12_in a4 1 99) = 0 then bd2 (f_X12_refused σ (-6)) (fun v19 σ18 => some (v19, σ18)) else ld (ga σ 0) 173 172 (fun v10 => if v10 = 24 then bd2 (f_X12_refused σ (-7)) (fun v16 σ15 => some (v16, σ15)) else bd2 (f_X12_comes σ a1 a2 a3 a4 0 (-1) (-1)) (fun v13 σ12 => some (v13, σ12)))
theorem mi_X12_action : MI yX12_action cX12_action 5 (some .int) 4 := ⟨im_X12_action, se_X12_action, in_X12, co_X12_action, by decide, by decide, by decide +kernel⟩
set_option maxRecDepth 100000 in
set_option maxHeartbeats 4000000 in
theorem ct_X12_action (l : Launch) (G : EN) (A : Nat → Nat) (σ : SC) (sz : Nat) (a1 : Int32) (a2 : Int32) (a3 : Int32) (a4 : Int32) {r0 : Int32} {σ0 : SC} (h : f_X12_action σ a1 a2 a3 a4 = some (r0, σ0)) : CT l yX12_action cX12_action 5 (some .int) rmX12_action G sz [.ref (A 0), .int a1, .int a2, .int a3, .int a4] (wM G A σ) (QI G (va_A (wM G A σ) sz) r0 (wM G A σ0)) := by
  unfold f_X12_action at h
  refine CI.intro (lv := [(0, .ref (A 0)), (1, .int a1), (2, .int a2), (3, .int a3), (4, .int a4)]) (by decide) (Nat.le_of_ble_eq_true rfl) rfl ?_
  intro p e s m args below meth c Q B S hret H locs ls hW hl
  have hx := S.1
  have hb := S.2.1
  refine lv_iload_n hx hb dX12_action_0 rfl (lv_at hl 1 rfl) ?_
  refine back_i (rest := []) hW (run_S S hW (ct_X12_isSet l G A σ _ a1 rfl) ms_X12_isSet lk_X12_91 rfl rfl hl (Nat.le_of_ble_eq_true rfl) dX12_action_1 ⟨Nat.le_of_ble_eq_true rfl, Nat.le_of_ble_eq_true rfl⟩ rfl rfl) (fun H locs hW => ?_)
  refine bz_eq (tgt := 32) hx hb h dX12_action_4 (by decide) (fun _ h => ?_) (fun _ h => ?_)
  · refine lv_aload_n hx hb dX12_action_32 rfl (lv_at hl 0 rfl) ?_
    refine lv_bipush (v := (-6)) hx hb dX12_action_33 (by decide) ?_
    obtain ⟨v3, σ2, h1, h⟩ := bd2_o h
    refine back_i (rest := []) hW (run_V S hW (ct_X12_refused l G A σ _ (-6) h1) mi_X12_refused lk_X12_75 (eM_0 G A σ) rfl rfl rfl hl (Nat.le_of_ble_eq_true rfl) dX12_action_35 ⟨Nat.le_of_ble_eq_true rfl, Nat.le_of_ble_eq_true rfl⟩ rfl rfl) (fun H locs hW => ?_)
    exact ret_is (wf := wM G A) hret h rfl hW dX12_action_38
  · refine lv_iload_n hx hb dX12_action_7 rfl (lv_at hl 2 rfl) ?_
    refine back_i (rest := []) hW (run_S S hW (ct_X12_isSet l G A σ _ a2 rfl) ms_X12_isSet lk_X12_91 rfl rfl hl (Nat.le_of_ble_eq_true rfl) dX12_action_8 ⟨Nat.le_of_ble_eq_true rfl, Nat.le_of_ble_eq_true rfl⟩ rfl rfl) (fun H locs hW => ?_)
    refine bz_eq (tgt := 32) hx hb h dX12_action_11 (by decide) (fun _ h => ?_) (fun _ h => ?_)
    · refine lv_aload_n hx hb dX12_action_32 rfl (lv_at hl 0 rfl) ?_
      refine lv_bipush (v := (-6)) hx hb dX12_action_33 (by decide) ?_
      obtain ⟨v6, σ5, h4, h⟩ := bd2_o h
      refine back_i (rest := []) hW (run_V S hW (ct_X12_refused l G A σ _ (-6) h4) mi_X12_refused lk_X12_75 (eM_0 G A σ) rfl rfl rfl hl (Nat.le_of_ble_eq_true rfl) dX12_action_35 ⟨Nat.le_of_ble_eq_true rfl, Nat.le_of_ble_eq_true rfl⟩ rfl rfl) (fun H locs hW => ?_)
      exact ret_is (wf := wM G A) hret h rfl hW dX12_action_38
    · refine lv_iload_n hx hb dX12_action_14 rfl (lv_at hl 3 rfl) ?_
      refine back_i (rest := []) hW (run_S S hW (ct_X12_isSet l G A σ _ a3 rfl) ms_X12_isSet lk_X12_91 rfl rfl hl (Nat.le_of_ble_eq_true rfl) dX12_action_15 ⟨Nat.le_of_ble_eq_true rfl, Nat.le_of_ble_eq_true rfl⟩ rfl rfl) (fun H locs hW => ?_)
      refine bz_eq (tgt := 32) hx hb h dX12_action_18 (by decide) (fun _ h => ?_) (fun _ h => ?_)
      · refine lv_aload_n hx hb dX12_action_32 rfl (lv_at hl 0 rfl) ?_
        refine lv_bipush (v := (-6)) hx hb dX12_action_33 (by decide) ?_
        obtain ⟨v9, σ8, h7, h⟩ := bd2_o h
        refine back_i (rest := []) hW (run_V S hW (ct_X12_refused l G A σ _ (-6) h7) mi_X12_refused lk_X12_75 (eM_0 G A σ) rfl rfl rfl hl (Nat.le_of_ble_eq_true rfl) dX12_action_35 ⟨Nat.le_of_ble_eq_true rfl, Nat.le_of_ble_eq_true rfl⟩ rfl rfl) (fun H locs hW => ?_)
        exact ret_is (wf := wM G A) hret h rfl hW dX12_action_38
      · refine lv_iload hx hb dX12_action_21 (lv_at hl 4 rfl) ?_
        refine lv_iconst (v := 1) hx hb dX12_action_23 (by decide) ?_
        refine lv_bipush (v := 99) hx hb dX12_action_24 (by decide) ?_
        refine back_i (rest := []) hW (run_S S hW (ct_X12_in l G A σ _ a4 1 99 rfl) ms_X12_in lk_X12_67 rfl rfl hl (Nat.le_of_ble_eq_true rfl) dX12_action_26 ⟨Nat.le_of_ble_eq_true rfl, Nat.le_of_ble_eq_true rfl⟩ rfl rfl) (fun H locs hW => ?_)
        refine bz_ne (tgt := 39) hx hb h dX12_action_29 (by decide) (fun _ h => ?_) (fun _ h => ?_)
        · refine lv_aload_n hx hb dX12_action_32 rfl (lv_at hl 0 rfl) ?_
          refine lv_bipush (v := (-6)) hx hb dX12_action_33 (by decide) ?_
          obtain ⟨v19, σ18, h17, h⟩ := bd2_o h
          refine back_i (rest := []) hW (run_V S hW (ct_X12_refused l G A σ _ (-6) h17) mi_X12_refused lk_X12_75 (eM_0 G A σ) rfl rfl rfl hl (Nat.le_of_ble_eq_true rfl) dX12_action_35 ⟨Nat.le_of_ble_eq_true rfl, Nat.le_of_ble_eq_true rfl⟩ rfl rfl) (fun H locs hW => ?_)
          exact ret_is (wf := wM G A) hret h rfl hW dX12_action_38
        · refine lv_aload_n hx hb dX12_action_39 rfl (lv_at hl 0 rfl) ?_
          refine gM_s S hW lk_X12_7 dX12_action_40 ?_
          refine lv_sipush (v := 172) hx hb dX12_action_43 (by decide) ?_
          refine aM_1 S hW h dX12_action_46 (fun v10 _ h => ?_)
          refine lv_bipush (v := 24) hx hb dX12_action_47 (by decide) ?_
          refine bc_ne (tgt := 61) hx hb h dX12_action_49 (by decide) (fun _ h => ?_) (fun _ h => ?_)
          · refine lv_aload_n hx hb dX12_action_52 rfl (lv_at hl 0 rfl) ?_
            refine lv_bipush (v := (-7)) hx hb dX12_action_53 (by decide) ?_
            obtain ⟨v16, σ15, h14, h⟩ := bd2_o h
            refine back_i (rest := []) hW (run_V S hW (ct_X12_refused l G A σ _ (-7) h14) mi_X12_refused lk_X12_75 (eM_0 G A σ) rfl rfl rfl hl (Nat.le_of_ble_eq_true rfl) dX12_action_55 ⟨Nat.le_of_ble_eq_true rfl, Nat.le_of_ble_eq_true rfl⟩ rfl rfl) (fun H locs hW => ?_)
            refine lv_goto (tgt := 73) hx hb dX12_action_58 (by decide) ?_
            exact ret_is (wf := wM G A) hret h rfl hW dX12_action_73
          · refine lv_aload_n hx hb dX12_action_61 rfl (lv_at hl 0 rfl) ?_
            refine lv_iload_n hx hb dX12_action_62 rfl (lv_at hl 1 rfl) ?_
            refine lv_iload_n hx hb dX12_action_63 rfl (lv_at hl 2 rfl) ?_
            refine lv_iload_n hx hb dX12_action_64 rfl (lv_at hl 3 rfl) ?_
            refine lv_iload hx hb dX12_action_65 (lv_at hl 4 rfl) ?_
            refine lv_iconst (v := 0) hx hb dX12_action_67 (by decide) ?_
            refine lv_iconst (v := (-1)) hx hb dX12_action_68 (by decide) ?_
            refine lv_iconst (v := (-1)) hx hb dX12_action_69 (by decide) ?_
            obtain ⟨v13, σ12, h11, h⟩ := bd2_o h
            refine back_i (rest := []) hW (run_V S hW (ct_X12_comes l G A σ _ a1 a2 a3 a4 0 (-1) (-1) h11) mi_X12_comes lk_X12_94 (eM_0 G A σ) rfl rfl rfl hl (Nat.le_of_ble_eq_true rfl) dX12_action_70 ⟨Nat.le_of_ble_eq_true rfl, Nat.le_of_ble_eq_true rfl⟩ rfl rfl) (fun H locs hW => ?_)
            exact ret_is (wf := wM G A) hret h rfl hW dX12_action_73
def rmX12_macro : Room := { frames := 2, cells := 0, slots := 0, locals := 43 }
def f_X12_macro (σ : SC) (a1 : Int32) (a2 : Int32) : Option (Int32 × SC) := bd (f_X12_isAction σ a1) (fun v2 => if v2 = 0 then bd2 (f_X12_refused σ (-1)) (fun v5 σ4 => some (v5, σ4)) else bd (f_X12_isAction σ a2) (fun v7 => if v7 = 0 then bd2 (f_X12_refused σ (-1)) (fun v50 σ49 => some (v50, σ49)) else ld (ga σ 0) 173 (48 + a1) (fun v8 => ld (ga σ 0) 173 (24 + a1) (fun v9 => ld (ga σ 0) 173 (0 + a2) (fun v10 => lt ((v8 &&& (v9 ^^^ (-1))) &&& v10) (fun v11 => ld (ga σ 0) 173 (72 + a1) (fun v12 => ld (ga σ 0) 173 (72 + a2) (fun v13 => lt (v12 + v13) (fun v14 => if v11 = 0 then if v14 ≤ 99 then ld (ga σ 0) 173 172 (fun v18 => if v18 = 24 then bd2 (f_X12_refused σ (-7)) (fun v44 σ43 => some (v44, σ43)) else ld (ga σ 0) 173 (0 + a1) (fun v19 => ld (ga σ 0) 173 (0 + a2) (fun v20 => ld (ga σ 0) 173 (24 + a1) (fun v21 => lt (v19 ||| (v20 &&& (v21 ^^^ (-1)))) (fun v22 => ld (ga σ 0) 173 (24 + a1) (fun v23 => ld (ga σ 0) 173 (48 + a2) (fun v24 => ld (ga σ 0) 173 (24 + a2) (fun v25 => lt ((v23 &&& (v24 ^^^ (-1))) ||| v25) (fun v26 => ld (ga σ 0) 173 (48 + a1) (fun v27 => ld (ga σ 0) 173 (24 + a2) (fun v28 => ld (ga σ 0) 173 (48 + a2) (fun v29 => lt ((v27 &&& (v28 ^^^ (-1))) ||| v29) (fun v30 => ld (ga σ 0) 173 (96 + a1) (fun v31 => if 0 < v31 then bd2 (f_X12_comes σ v22 v26 v30 v14 2 a1 a2) (fun v34 σ33 => some (v34, σ33)) else ld (ga σ 0) 173 (96 + a2) (fun v35 => if v35 ≤ 0 then bd2 (f_X12_comes σ v22 v26 v30 v14 1 a1 a2) (fun v38 σ37 => some (v38, σ37)) else bd2 (f_X12_comes σ v22 v26 v30 v14 2 a1 a2) (fun v41 σ40 => some (v41, σ40))))))))))))))))) else bd2 (f_X12_refused σ (-6)) (fun v47 σ46 => some (v47, σ46)) else bd2 (f_X12_refused σ (-6)) (fun v17 σ16 => some (v17, σ16)))))))))))
theorem mi_X12_macro : MI yX12_macro cX12_macro 8 (some .int) 2 := ⟨im_X12_macro, se_X12_macro, in_X12, co_X12_macro, by decide, by decide, by decide +kernel⟩
set_option maxRecDepth 100000 in
set_option maxHeartbeats 4000000 in
theorem ct_X12_macro (l : Launch) (G : EN) (A : Nat → Nat) (σ : SC) (sz : Nat) (a1 : Int32) (a2 : Int32) {r0 : Int32} {σ0 : SC} (h : f_X12_macro σ a1 a2 = some (r0, σ0)) : CT l yX12_macro cX12_macro 8 (some .int) rmX12_macro G sz [.ref (A 0), .int a1, .int a2] (wM G A σ) (QI G (va_A (wM G A σ) sz) r0 (wM G A σ0)) := by
  unfold f_X12_macro at h
  refine CI.intro (lv := [(0, .ref (A 0)), (1, .int a1), (2, .int a2)]) (by decide) (Nat.le_of_ble_eq_true rfl) rfl ?_
  intro p e s m args below meth c Q B S hret H locs ls hW hl
  have hx := S.1
  have hb := S.2.1
  refine lv_aload_n hx hb dX12_macro_0 rfl (lv_at hl 0 rfl) ?_
  refine lv_iload_n hx hb dX12_macro_1 rfl (lv_at hl 1 rfl) ?_
  obtain ⟨v2, h1, h⟩ := bd_o h
  refine back_i (rest := []) hW (run_V S hW (ct_X12_isAction l G A σ _ a1 h1) mi_X12_isAction lk_X12_85 (eM_0 G A σ) rfl rfl rfl hl (Nat.le_of_ble_eq_true rfl) dX12_macro_2 ⟨Nat.le_of_ble_eq_true rfl, Nat.le_of_ble_eq_true rfl⟩ rfl rfl) (fun H locs hW => ?_)
  refine bz_eq (tgt := 16) hx hb h dX12_macro_5 (by decide) (fun _ h => ?_) (fun _ h => ?_)
  · refine lv_aload_n hx hb dX12_macro_16 rfl (lv_at hl 0 rfl) ?_
    refine lv_iconst (v := (-1)) hx hb dX12_macro_17 (by decide) ?_
    obtain ⟨v5, σ4, h3, h⟩ := bd2_o h
    refine back_i (rest := []) hW (run_V S hW (ct_X12_refused l G A σ _ (-1) h3) mi_X12_refused lk_X12_75 (eM_0 G A σ) rfl rfl rfl hl (Nat.le_of_ble_eq_true rfl) dX12_macro_18 ⟨Nat.le_of_ble_eq_true rfl, Nat.le_of_ble_eq_true rfl⟩ rfl rfl) (fun H locs hW => ?_)
    exact ret_is (wf := wM G A) hret h rfl hW dX12_macro_21
  · refine lv_aload_n hx hb dX12_macro_8 rfl (lv_at hl 0 rfl) ?_
    refine lv_iload_n hx hb dX12_macro_9 rfl (lv_at hl 2 rfl) ?_
    obtain ⟨v7, h6, h⟩ := bd_o h
    refine back_i (rest := []) hW (run_V S hW (ct_X12_isAction l G A σ _ a2 h6) mi_X12_isAction lk_X12_85 (eM_0 G A σ) rfl rfl rfl hl (Nat.le_of_ble_eq_true rfl) dX12_macro_10 ⟨Nat.le_of_ble_eq_true rfl, Nat.le_of_ble_eq_true rfl⟩ rfl rfl) (fun H locs hW => ?_)
    refine bz_ne (tgt := 22) hx hb h dX12_macro_13 (by decide) (fun _ h => ?_) (fun _ h => ?_)
    · refine lv_aload_n hx hb dX12_macro_16 rfl (lv_at hl 0 rfl) ?_
      refine lv_iconst (v := (-1)) hx hb dX12_macro_17 (by decide) ?_
      obtain ⟨v50, σ49, h48, h⟩ := bd2_o h
      refine back_i (rest := []) hW (run_V S hW (ct_X12_refused l G A σ _ (-1) h48) mi_X12_refused lk_X12_75 (eM_0 G A σ) rfl rfl rfl hl (Nat.le_of_ble_eq_true rfl) dX12_macro_18 ⟨Nat.le_of_ble_eq_true rfl, Nat.le_of_ble_eq_true rfl⟩ rfl rfl) (fun H locs hW => ?_)
      exact ret_is (wf := wM G A) hret h rfl hW dX12_macro_21
    · refine lv_aload_n hx hb dX12_macro_22 rfl (lv_at hl 0 rfl) ?_
      refine gM_s S hW lk_X12_7 dX12_macro_23 ?_
      refine lv_bipush (v := 48) hx hb dX12_macro_26 (by decide) ?_
      refine lv_iload_n hx hb dX12_macro_28 rfl (lv_at hl 1 rfl) ?_
      refine lv_iadd hx hb dX12_macro_29 ?_
      refine aM_1 S hW h dX12_macro_30 (fun v8 _ h => ?_)
      refine lv_aload_n hx hb dX12_macro_31 rfl (lv_at hl 0 rfl) ?_
      refine gM_s S hW lk_X12_7 dX12_macro_32 ?_
      refine lv_bipush (v := 24) hx hb dX12_macro_35 (by decide) ?_
      refine lv_iload_n hx hb dX12_macro_37 rfl (lv_at hl 1 rfl) ?_
      refine lv_iadd hx hb dX12_macro_38 ?_
      refine aM_1 S hW h dX12_macro_39 (fun v9 _ h => ?_)
      refine lv_iconst (v := (-1)) hx hb dX12_macro_40 (by decide) ?_
      refine lv_ixor hx hb dX12_macro_41 ?_
      refine lv_iand hx hb dX12_macro_42 ?_
      refine lv_aload_n hx hb dX12_macro_43 rfl (lv_at hl 0 rfl) ?_
      refine gM_s S hW lk_X12_7 dX12_macro_44 ?_
      refine lv_iconst (v := 0) hx hb dX12_macro_47 (by decide) ?_
      refine lv_iload_n hx hb dX12_macro_48 rfl (lv_at hl 2 rfl) ?_
      refine lv_iadd hx hb dX12_macro_49 ?_
      refine aM_1 S hW h dX12_macro_50 (fun v10 _ h => ?_)
      refine lv_iand hx hb dX12_macro_51 ?_
      refine nm_i h (fun v11 h => ?_)
      refine lv_istore_n (lv' := [(3, .int v11), (0, .ref (A 0)), (1, .int a1), (2, .int a2)]) hx hb dX12_macro_52 rfl hl (by decide) rfl (fun ls hl => ?_)
      refine lv_aload_n hx hb dX12_macro_53 rfl (lv_at hl 1 rfl) ?_
      refine gM_s S hW lk_X12_7 dX12_macro_54 ?_
      refine lv_bipush (v := 72) hx hb dX12_macro_57 (by decide) ?_
      refine lv_iload_n hx hb dX12_macro_59 rfl (lv_at hl 2 rfl) ?_
      refine lv_iadd hx hb dX12_macro_60 ?_
      refine aM_1 S hW h dX12_macro_61 (fun v12 _ h => ?_)
      refine lv_aload_n hx hb dX12_macro_62 rfl (lv_at hl 1 rfl) ?_
      refine gM_s S hW lk_X12_7 dX12_macro_63 ?_
      refine lv_bipush (v := 72) hx hb dX12_macro_66 (by decide) ?_
      refine lv_iload_n hx hb dX12_macro_68 rfl (lv_at hl 3 rfl) ?_
      refine lv_iadd hx hb dX12_macro_69 ?_
      refine aM_1 S hW h dX12_macro_70 (fun v13 _ h => ?_)
      refine lv_iadd hx hb dX12_macro_71 ?_
      refine nm_i h (fun v14 h => ?_)
      refine lv_istore (lv' := [(4, .int v14), (3, .int v11), (0, .ref (A 0)), (1, .int a1), (2, .int a2)]) hx hb dX12_macro_72 hl (by decide) rfl (fun ls hl => ?_)
      refine lv_iload_n hx hb dX12_macro_74 rfl (lv_at hl 1 rfl) ?_
      refine bz_ne (tgt := 85) hx hb h dX12_macro_75 (by decide) (fun _ h => ?_) (fun _ h => ?_)
      · refine lv_iload hx hb dX12_macro_78 (lv_at hl 0 rfl) ?_
        refine lv_bipush (v := 99) hx hb dX12_macro_80 (by decide) ?_
        refine bc_le (tgt := 92) hx hb h dX12_macro_82 (by decide) (fun _ h => ?_) (fun _ h => ?_)
        · refine lv_aload_n hx hb dX12_macro_92 rfl (lv_at hl 2 rfl) ?_
          refine gM_s S hW lk_X12_7 dX12_macro_93 ?_
          refine lv_sipush (v := 172) hx hb dX12_macro_96 (by decide) ?_
          refine aM_1 S hW h dX12_macro_99 (fun v18 _ h => ?_)
          refine lv_bipush (v := 24) hx hb dX12_macro_100 (by decide) ?_
          refine bc_ne (tgt := 112) hx hb h dX12_macro_102 (by decide) (fun _ h => ?_) (fun _ h => ?_)
          · refine lv_aload_n hx hb dX12_macro_105 rfl (lv_at hl 2 rfl) ?_
            refine lv_bipush (v := (-7)) hx hb dX12_macro_106 (by decide) ?_
            obtain ⟨v44, σ43, h42, h⟩ := bd2_o h
            refine back_i (rest := []) hW (run_V S hW (ct_X12_refused l G A σ _ (-7) h42) mi_X12_refused lk_X12_75 (eM_0 G A σ) rfl rfl rfl hl (Nat.le_of_ble_eq_true rfl) dX12_macro_108 ⟨Nat.le_of_ble_eq_true rfl, Nat.le_of_ble_eq_true rfl⟩ rfl rfl) (fun H locs hW => ?_)
            exact ret_is (wf := wM G A) hret h rfl hW dX12_macro_111
          · refine lv_aload_n hx hb dX12_macro_112 rfl (lv_at hl 2 rfl) ?_
            refine gM_s S hW lk_X12_7 dX12_macro_113 ?_
            refine lv_iconst (v := 0) hx hb dX12_macro_116 (by decide) ?_
            refine lv_iload_n hx hb dX12_macro_117 rfl (lv_at hl 3 rfl) ?_
            refine lv_iadd hx hb dX12_macro_118 ?_
            refine aM_1 S hW h dX12_macro_119 (fun v19 _ h => ?_)
            refine lv_aload_n hx hb dX12_macro_120 rfl (lv_at hl 2 rfl) ?_
            refine gM_s S hW lk_X12_7 dX12_macro_121 ?_
            refine lv_iconst (v := 0) hx hb dX12_macro_124 (by decide) ?_
            refine lv_iload_n hx hb dX12_macro_125 rfl (lv_at hl 4 rfl) ?_
            refine lv_iadd hx hb dX12_macro_126 ?_
            refine aM_1 S hW h dX12_macro_127 (fun v20 _ h => ?_)
            refine lv_aload_n hx hb dX12_macro_128 rfl (lv_at hl 2 rfl) ?_
            refine gM_s S hW lk_X12_7 dX12_macro_129 ?_
            refine lv_bipush (v := 24) hx hb dX12_macro_132 (by decide) ?_
            refine lv_iload_n hx hb dX12_macro_134 rfl (lv_at hl 3 rfl) ?_
            refine lv_iadd hx hb dX12_macro_135 ?_
            refine aM_1 S hW h dX12_macro_136 (fun v21 _ h => ?_)
            refine lv_iconst (v := (-1)) hx hb dX12_macro_137 (by decide) ?_
            refine lv_ixor hx hb dX12_macro_138 ?_
            refine lv_iand hx hb dX12_macro_139 ?_
            refine lv_ior hx hb dX12_macro_140 ?_
            refine nm_i h (fun v22 h => ?_)
            refine lv_istore (lv' := [(5, .int v22), (4, .int v14), (3, .int v11), (0, .ref (A 0)), (1, .int a1), (2, .int a2)]) hx hb dX12_macro_141 hl (by decide) rfl (fun ls hl => ?_)
            refine lv_aload_n hx hb dX12_macro_143 rfl (lv_at hl 3 rfl) ?_
            refine gM_s S hW lk_X12_7 dX12_macro_144 ?_
            refine lv_bipush (v := 24) hx hb dX12_macro_147 (by decide) ?_
            refine lv_iload_n hx hb dX12_macro_149 rfl (lv_at hl 4 rfl) ?_
            refine lv_iadd hx hb dX12_macro_150 ?_
            refine aM_1 S hW h dX12_macro_151 (fun v23 _ h => ?_)
            refine lv_aload_n hx hb dX12_macro_152 rfl (lv_at hl 3 rfl) ?_
            refine gM_s S hW lk_X12_7 dX12_macro_153 ?_
            refine lv_bipush (v := 48) hx hb dX12_macro_156 (by decide) ?_
            refine lv_iload_n hx hb dX12_macro_158 rfl (lv_at hl 5 rfl) ?_
            refine lv_iadd hx hb dX12_macro_159 ?_
            refine aM_1 S hW h dX12_macro_160 (fun v24 _ h => ?_)
            refine lv_iconst (v := (-1)) hx hb dX12_macro_161 (by decide) ?_
            refine lv_ixor hx hb dX12_macro_162 ?_
            refine lv_iand hx hb dX12_macro_163 ?_
            refine lv_aload_n hx hb dX12_macro_164 rfl (lv_at hl 3 rfl) ?_
            refine gM_s S hW lk_X12_7 dX12_macro_165 ?_
            refine lv_bipush (v := 24) hx hb dX12_macro_168 (by decide) ?_
            refine lv_iload_n hx hb dX12_macro_170 rfl (lv_at hl 5 rfl) ?_
            refine lv_iadd hx hb dX12_macro_171 ?_
            refine aM_1 S hW h dX12_macro_172 (fun v25 _ h => ?_)
            refine lv_ior hx hb dX12_macro_173 ?_
            refine nm_i h (fun v26 h => ?_)
            refine lv_istore (lv' := [(6, .int v26), (5, .int v22), (4, .int v14), (3, .int v11), (0, .ref (A 0)), (1, .int a1), (2, .int a2)]) hx hb dX12_macro_174 hl (by decide) rfl (fun ls hl => ?_)
            refine lv_aload_n hx hb dX12_macro_176 rfl (lv_at hl 4 rfl) ?_
            refine gM_s S hW lk_X12_7 dX12_macro_177 ?_
            refine lv_bipush (v := 48) hx hb dX12_macro_180 (by decide) ?_
            refine lv_iload_n hx hb dX12_macro_182 rfl (lv_at hl 5 rfl) ?_
            refine lv_iadd hx hb dX12_macro_183 ?_
            refine aM_1 S hW h dX12_macro_184 (fun v27 _ h => ?_)
            refine lv_aload_n hx hb dX12_macro_185 rfl (lv_at hl 4 rfl) ?_
            refine gM_s S hW lk_X12_7 dX12_macro_186 ?_
            refine lv_bipush (v := 24) hx hb dX12_macro_189 (by decide) ?_
            refine lv_iload_n hx hb dX12_macro_191 rfl (lv_at hl 6 rfl) ?_
            refine lv_iadd hx hb dX12_macro_192 ?_
            refine aM_1 S hW h dX12_macro_193 (fun v28 _ h => ?_)
            refine lv_iconst (v := (-1)) hx hb dX12_macro_194 (by decide) ?_
            refine lv_ixor hx hb dX12_macro_195 ?_
            refine lv_iand hx hb dX12_macro_196 ?_
            refine lv_aload_n hx hb dX12_macro_197 rfl (lv_at hl 4 rfl) ?_
            refine gM_s S hW lk_X12_7 dX12_macro_198 ?_
            refine lv_bipush (v := 48) hx hb dX12_macro_201 (by decide) ?_
            refine lv_iload_n hx hb dX12_macro_203 rfl (lv_at hl 6 rfl) ?_
            refine lv_iadd hx hb dX12_macro_204 ?_
            refine aM_1 S hW h dX12_macro_205 (fun v29 _ h => ?_)
            refine lv_ior hx hb dX12_macro_206 ?_
            refine nm_i h (fun v30 h => ?_)
            refine lv_istore (lv' := [(7, .int v30), (6, .int v26), (5, .int v22), (4, .int v14), (3, .int v11), (0, .ref (A 0)), (1, .int a1), (2, .int a2)]) hx hb dX12_macro_207 hl (by decide) rfl (fun ls hl => ?_)
            refine lv_aload_n hx hb dX12_macro_209 rfl (lv_at hl 5 rfl) ?_
            refine lv_iload hx hb dX12_macro_210 (lv_at hl 2 rfl) ?_
            refine lv_iload hx hb dX12_macro_212 (lv_at hl 1 rfl) ?_
            refine lv_iload hx hb dX12_macro_214 (lv_at hl 0 rfl) ?_
            refine lv_iload hx hb dX12_macro_216 (lv_at hl 3 rfl) ?_
            refine lv_aload_n hx hb dX12_macro_218 rfl (lv_at hl 5 rfl) ?_
            refine gM_s S hW lk_X12_7 dX12_macro_219 ?_
            refine lv_bipush (v := 96) hx hb dX12_macro_222 (by decide) ?_
            refine lv_iload_n hx hb dX12_macro_224 rfl (lv_at hl 6 rfl) ?_
            refine lv_iadd hx hb dX12_macro_225 ?_
            refine aM_1 S hW h dX12_macro_226 (fun v31 _ h => ?_)
            refine bz_gt (tgt := 242) hx hb h dX12_macro_227 (by decide) (fun _ h => ?_) (fun _ h => ?_)
            · refine lv_iconst (v := 2) hx hb dX12_macro_242 (by decide) ?_
              refine lv_goto (tgt := 247) hx hb dX12_macro_243 (by decide) ?_
              refine lv_iload_n hx hb dX12_macro_247 rfl (lv_at hl 6 rfl) ?_
              refine lv_iload_n hx hb dX12_macro_248 rfl (lv_at hl 7 rfl) ?_
              obtain ⟨v34, σ33, h32, h⟩ := bd2_o h
              refine back_i (rest := []) hW (run_V S hW (ct_X12_comes l G A σ _ v22 v26 v30 v14 2 a1 a2 h32) mi_X12_comes lk_X12_94 (eM_0 G A σ) rfl rfl rfl hl (Nat.le_of_ble_eq_true rfl) dX12_macro_249 ⟨Nat.le_of_ble_eq_true rfl, Nat.le_of_ble_eq_true rfl⟩ rfl rfl) (fun H locs hW => ?_)
              exact ret_is (wf := wM G A) hret h rfl hW dX12_macro_252
            · refine lv_aload_n hx hb dX12_macro_230 rfl (lv_at hl 5 rfl) ?_
              refine gM_s S hW lk_X12_7 dX12_macro_231 ?_
              refine lv_bipush (v := 96) hx hb dX12_macro_234 (by decide) ?_
              refine lv_iload_n hx hb dX12_macro_236 rfl (lv_at hl 7 rfl) ?_
              refine lv_iadd hx hb dX12_macro_237 ?_
              refine aM_1 S hW h dX12_macro_238 (fun v35 _ h => ?_)
              refine bz_le (tgt := 246) hx hb h dX12_macro_239 (by decide) (fun _ h => ?_) (fun _ h => ?_)
              · refine lv_iconst (v := 1) hx hb dX12_macro_246 (by decide) ?_
                refine lv_iload_n hx hb dX12_macro_247 rfl (lv_at hl 6 rfl) ?_
                refine lv_iload_n hx hb dX12_macro_248 rfl (lv_at hl 7 rfl) ?_
                obtain ⟨v38, σ37, h36, h⟩ := bd2_o h
                refine back_i (rest := []) hW (run_V S hW (ct_X12_comes l G A σ _ v22 v26 v30 v14 1 a1 a2 h36) mi_X12_comes lk_X12_94 (eM_0 G A σ) rfl rfl rfl hl (Nat.le_of_ble_eq_true rfl) dX12_macro_249 ⟨Nat.le_of_ble_eq_true rfl, Nat.le_of_ble_eq_true rfl⟩ rfl rfl) (fun H locs hW => ?_)
                exact ret_is (wf := wM G A) hret h rfl hW dX12_macro_252
              · refine lv_iconst (v := 2) hx hb dX12_macro_242 (by decide) ?_
                refine lv_goto (tgt := 247) hx hb dX12_macro_243 (by decide) ?_
                refine lv_iload_n hx hb dX12_macro_247 rfl (lv_at hl 6 rfl) ?_
                refine lv_iload_n hx hb dX12_macro_248 rfl (lv_at hl 7 rfl) ?_
                obtain ⟨v41, σ40, h39, h⟩ := bd2_o h
                refine back_i (rest := []) hW (run_V S hW (ct_X12_comes l G A σ _ v22 v26 v30 v14 2 a1 a2 h39) mi_X12_comes lk_X12_94 (eM_0 G A σ) rfl rfl rfl hl (Nat.le_of_ble_eq_true rfl) dX12_macro_249 ⟨Nat.le_of_ble_eq_true rfl, Nat.le_of_ble_eq_true rfl⟩ rfl rfl) (fun H locs hW => ?_)
                exact ret_is (wf := wM G A) hret h rfl hW dX12_macro_252
        · refine lv_aload_n hx hb dX12_macro_85 rfl (lv_at hl 2 rfl) ?_
          refine lv_bipush (v := (-6)) hx hb dX12_macro_86 (by decide) ?_
          obtain ⟨v47, σ46, h45, h⟩ := bd2_o h
          refine back_i (rest := []) hW (run_V S hW (ct_X12_refused l G A σ _ (-6) h45) mi_X12_refused lk_X12_75 (eM_0 G A σ) rfl rfl rfl hl (Nat.le_of_ble_eq_true rfl) dX12_macro_88 ⟨Nat.le_of_ble_eq_true rfl, Nat.le_of_ble_eq_true rfl⟩ rfl rfl) (fun H locs hW => ?_)
          exact ret_is (wf := wM G A) hret h rfl hW dX12_macro_91
      · refine lv_aload_n hx hb dX12_macro_85 rfl (lv_at hl 2 rfl) ?_
        refine lv_bipush (v := (-6)) hx hb dX12_macro_86 (by decide) ?_
        obtain ⟨v17, σ16, h15, h⟩ := bd2_o h
        refine back_i (rest := []) hW (run_V S hW (ct_X12_refused l G A σ _ (-6) h15) mi_X12_refused lk_X12_75 (eM_0 G A σ) rfl rfl rfl hl (Nat.le_of_ble_eq_true rfl) dX12_macro_88 ⟨Nat.le_of_ble_eq_true rfl, Nat.le_of_ble_eq_true rfl⟩ rfl rfl) (fun H locs hW => ?_)
        exact ret_is (wf := wM G A) hret h rfl hW dX12_macro_91
def rmX12_actionOf : Room := { frames := 2, cells := 0, slots := 0, locals := 43 }
def f_X12_actionOf (σ : SC) (a1 : Int32) (a2 : Int32) : Option (Int32 × SC) := bd (f_X12_isAction σ a1) (fun v2 => if v2 = 0 then bd2 (f_X12_refused σ (-5)) (fun v5 σ4 => some (v5, σ4)) else if (f_X12_in a2 0 6) = 0 then bd2 (f_X12_refused σ (-5)) (fun v15 σ14 => some (v15, σ14)) else if a2 = 0 then ld (ga σ 0) 173 (96 + a1) (fun v6 => some (v6, σ)) else if a2 = 1 then ld (ga σ 0) 173 (0 + a1) (fun v7 => some (v7, σ)) else if a2 = 2 then ld (ga σ 0) 173 (24 + a1) (fun v8 => some (v8, σ)) else if a2 = 3 then ld (ga σ 0) 173 (48 + a1) (fun v9 => some (v9, σ)) else if a2 = 4 then ld (ga σ 0) 173 (72 + a1) (fun v10 => some (v10, σ)) else if a2 = 5 then ld (ga σ 0) 173 (120 + a1) (fun v11 => some (v11, σ)) else ld (ga σ 0) 173 (144 + a1) (fun v12 => some (v12, σ)))
theorem mi_X12_actionOf : MI yX12_actionOf cX12_actionOf 3 (some .int) 2 := ⟨im_X12_actionOf, se_X12_actionOf, in_X12, co_X12_actionOf, by decide, by decide, by decide +kernel⟩
set_option maxRecDepth 100000 in
set_option maxHeartbeats 4000000 in
theorem ct_X12_actionOf (l : Launch) (G : EN) (A : Nat → Nat) (σ : SC) (sz : Nat) (a1 : Int32) (a2 : Int32) {r0 : Int32} {σ0 : SC} (h : f_X12_actionOf σ a1 a2 = some (r0, σ0)) : CT l yX12_actionOf cX12_actionOf 3 (some .int) rmX12_actionOf G sz [.ref (A 0), .int a1, .int a2] (wM G A σ) (QI G (va_A (wM G A σ) sz) r0 (wM G A σ0)) := by
  unfold f_X12_actionOf at h
  refine CI.intro (lv := [(0, .ref (A 0)), (1, .int a1), (2, .int a2)]) (by decide) (Nat.le_of_ble_eq_true rfl) rfl ?_
  intro p e s m args below meth c Q B S hret H locs ls hW hl
  have hx := S.1
  have hb := S.2.1
  refine lv_aload_n hx hb dX12_actionOf_0 rfl (lv_at hl 0 rfl) ?_
  refine lv_iload_n hx hb dX12_actionOf_1 rfl (lv_at hl 1 rfl) ?_
  obtain ⟨v2, h1, h⟩ := bd_o h
  refine back_i (rest := []) hW (run_V S hW (ct_X12_isAction l G A σ _ a1 h1) mi_X12_isAction lk_X12_85 (eM_0 G A σ) rfl rfl rfl hl (Nat.le_of_ble_eq_true rfl) dX12_actionOf_2 ⟨Nat.le_of_ble_eq_true rfl, Nat.le_of_ble_eq_true rfl⟩ rfl rfl) (fun H locs hW => ?_)
  refine bz_eq (tgt := 18) hx hb h dX12_actionOf_5 (by decide) (fun _ h => ?_) (fun _ h => ?_)
  · refine lv_aload_n hx hb dX12_actionOf_18 rfl (lv_at hl 0 rfl) ?_
    refine lv_bipush (v := (-5)) hx hb dX12_actionOf_19 (by decide) ?_
    obtain ⟨v5, σ4, h3, h⟩ := bd2_o h
    refine back_i (rest := []) hW (run_V S hW (ct_X12_refused l G A σ _ (-5) h3) mi_X12_refused lk_X12_75 (eM_0 G A σ) rfl rfl rfl hl (Nat.le_of_ble_eq_true rfl) dX12_actionOf_21 ⟨Nat.le_of_ble_eq_true rfl, Nat.le_of_ble_eq_true rfl⟩ rfl rfl) (fun H locs hW => ?_)
    exact ret_is (wf := wM G A) hret h rfl hW dX12_actionOf_24
  · refine lv_iload_n hx hb dX12_actionOf_8 rfl (lv_at hl 2 rfl) ?_
    refine lv_iconst (v := 0) hx hb dX12_actionOf_9 (by decide) ?_
    refine lv_bipush (v := 6) hx hb dX12_actionOf_10 (by decide) ?_
    refine back_i (rest := []) hW (run_S S hW (ct_X12_in l G A σ _ a2 0 6 rfl) ms_X12_in lk_X12_67 rfl rfl hl (Nat.le_of_ble_eq_true rfl) dX12_actionOf_12 ⟨Nat.le_of_ble_eq_true rfl, Nat.le_of_ble_eq_true rfl⟩ rfl rfl) (fun H locs hW => ?_)
    refine bz_ne (tgt := 25) hx hb h dX12_actionOf_15 (by decide) (fun _ h => ?_) (fun _ h => ?_)
    · refine lv_aload_n hx hb dX12_actionOf_18 rfl (lv_at hl 0 rfl) ?_
      refine lv_bipush (v := (-5)) hx hb dX12_actionOf_19 (by decide) ?_
      obtain ⟨v15, σ14, h13, h⟩ := bd2_o h
      refine back_i (rest := []) hW (run_V S hW (ct_X12_refused l G A σ _ (-5) h13) mi_X12_refused lk_X12_75 (eM_0 G A σ) rfl rfl rfl hl (Nat.le_of_ble_eq_true rfl) dX12_actionOf_21 ⟨Nat.le_of_ble_eq_true rfl, Nat.le_of_ble_eq_true rfl⟩ rfl rfl) (fun H locs hW => ?_)
      exact ret_is (wf := wM G A) hret h rfl hW dX12_actionOf_24
    · refine lv_iload_n hx hb dX12_actionOf_25 rfl (lv_at hl 2 rfl) ?_
      refine b_if h (fun hs26_0 h => ?_) (fun hs26_0 h => ?_)
      · refine lv_tableIn (tgt := 64) (off := 38) hx hb dX12_actionOf_26 (by rw [hs26_0]; decide) (by rw [hs26_0]; decide) (by rw [hs26_0]; rfl) (by decide) ?_
        refine lv_aload_n hx hb dX12_actionOf_64 rfl (lv_at hl 0 rfl) ?_
        refine gM_s S hW lk_X12_7 dX12_actionOf_65 ?_
        refine lv_bipush (v := 96) hx hb dX12_actionOf_68 (by decide) ?_
        refine lv_iload_n hx hb dX12_actionOf_70 rfl (lv_at hl 1 rfl) ?_
        refine lv_iadd hx hb dX12_actionOf_71 ?_
        refine aM_1 S hW h dX12_actionOf_72 (fun v6 _ h => ?_)
        exact ret_is (wf := wM G A) hret h rfl hW dX12_actionOf_73
      refine b_if h (fun hs26_1 h => ?_) (fun hs26_1 h => ?_)
      · refine lv_tableIn (tgt := 74) (off := 48) hx hb dX12_actionOf_26 (by rw [hs26_1]; decide) (by rw [hs26_1]; decide) (by rw [hs26_1]; rfl) (by decide) ?_
        refine lv_aload_n hx hb dX12_actionOf_74 rfl (lv_at hl 0 rfl) ?_
        refine gM_s S hW lk_X12_7 dX12_actionOf_75 ?_
        refine lv_iconst (v := 0) hx hb dX12_actionOf_78 (by decide) ?_
        refine lv_iload_n hx hb dX12_actionOf_79 rfl (lv_at hl 1 rfl) ?_
        refine lv_iadd hx hb dX12_actionOf_80 ?_
        refine aM_1 S hW h dX12_actionOf_81 (fun v7 _ h => ?_)
        exact ret_is (wf := wM G A) hret h rfl hW dX12_actionOf_82
      refine b_if h (fun hs26_2 h => ?_) (fun hs26_2 h => ?_)
      · refine lv_tableIn (tgt := 83) (off := 57) hx hb dX12_actionOf_26 (by rw [hs26_2]; decide) (by rw [hs26_2]; decide) (by rw [hs26_2]; rfl) (by decide) ?_
        refine lv_aload_n hx hb dX12_actionOf_83 rfl (lv_at hl 0 rfl) ?_
        refine gM_s S hW lk_X12_7 dX12_actionOf_84 ?_
        refine lv_bipush (v := 24) hx hb dX12_actionOf_87 (by decide) ?_
        refine lv_iload_n hx hb dX12_actionOf_89 rfl (lv_at hl 1 rfl) ?_
        refine lv_iadd hx hb dX12_actionOf_90 ?_
        refine aM_1 S hW h dX12_actionOf_91 (fun v8 _ h => ?_)
        exact ret_is (wf := wM G A) hret h rfl hW dX12_actionOf_92
      refine b_if h (fun hs26_3 h => ?_) (fun hs26_3 h => ?_)
      · refine lv_tableIn (tgt := 93) (off := 67) hx hb dX12_actionOf_26 (by rw [hs26_3]; decide) (by rw [hs26_3]; decide) (by rw [hs26_3]; rfl) (by decide) ?_
        refine lv_aload_n hx hb dX12_actionOf_93 rfl (lv_at hl 0 rfl) ?_
        refine gM_s S hW lk_X12_7 dX12_actionOf_94 ?_
        refine lv_bipush (v := 48) hx hb dX12_actionOf_97 (by decide) ?_
        refine lv_iload_n hx hb dX12_actionOf_99 rfl (lv_at hl 1 rfl) ?_
        refine lv_iadd hx hb dX12_actionOf_100 ?_
        refine aM_1 S hW h dX12_actionOf_101 (fun v9 _ h => ?_)
        exact ret_is (wf := wM G A) hret h rfl hW dX12_actionOf_102
      refine b_if h (fun hs26_4 h => ?_) (fun hs26_4 h => ?_)
      · refine lv_tableIn (tgt := 103) (off := 77) hx hb dX12_actionOf_26 (by rw [hs26_4]; decide) (by rw [hs26_4]; decide) (by rw [hs26_4]; rfl) (by decide) ?_
        refine lv_aload_n hx hb dX12_actionOf_103 rfl (lv_at hl 0 rfl) ?_
        refine gM_s S hW lk_X12_7 dX12_actionOf_104 ?_
        refine lv_bipush (v := 72) hx hb dX12_actionOf_107 (by decide) ?_
        refine lv_iload_n hx hb dX12_actionOf_109 rfl (lv_at hl 1 rfl) ?_
        refine lv_iadd hx hb dX12_actionOf_110 ?_
        refine aM_1 S hW h dX12_actionOf_111 (fun v10 _ h => ?_)
        exact ret_is (wf := wM G A) hret h rfl hW dX12_actionOf_112
      refine b_if h (fun hs26_5 h => ?_) (fun hs26_5 h => ?_)
      · refine lv_tableIn (tgt := 113) (off := 87) hx hb dX12_actionOf_26 (by rw [hs26_5]; decide) (by rw [hs26_5]; decide) (by rw [hs26_5]; rfl) (by decide) ?_
        refine lv_aload_n hx hb dX12_actionOf_113 rfl (lv_at hl 0 rfl) ?_
        refine gM_s S hW lk_X12_7 dX12_actionOf_114 ?_
        refine lv_bipush (v := 120) hx hb dX12_actionOf_117 (by decide) ?_
        refine lv_iload_n hx hb dX12_actionOf_119 rfl (lv_at hl 1 rfl) ?_
        refine lv_iadd hx hb dX12_actionOf_120 ?_
        refine aM_1 S hW h dX12_actionOf_121 (fun v11 _ h => ?_)
        exact ret_is (wf := wM G A) hret h rfl hW dX12_actionOf_122
      refine lv_tableOut (tgt := 123) hx hb dX12_actionOf_26 (sw_out 0 5 _ (fun k h1 h2 => by have := lv_neT hs26_0 (a := 0) (by decide) ; have := lv_neT hs26_1 (a := 1) (by decide) ; have := lv_neT hs26_2 (a := 2) (by decide) ; have := lv_neT hs26_3 (a := 3) (by decide) ; have := lv_neT hs26_4 (a := 4) (by decide) ; have := lv_neT hs26_5 (a := 5) (by decide); omega)) (by decide) ?_
      refine lv_aload_n hx hb dX12_actionOf_123 rfl (lv_at hl 0 rfl) ?_
      refine gM_s S hW lk_X12_7 dX12_actionOf_124 ?_
      refine lv_sipush (v := 144) hx hb dX12_actionOf_127 (by decide) ?_
      refine lv_iload_n hx hb dX12_actionOf_130 rfl (lv_at hl 1 rfl) ?_
      refine lv_iadd hx hb dX12_actionOf_131 ?_
      refine aM_1 S hW h dX12_actionOf_132 (fun v12 _ h => ?_)
      exact ret_is (wf := wM G A) hret h rfl hW dX12_actionOf_133
def rmX12_here : Room := { frames := 0, cells := 0, slots := 0, locals := 0 }
def f_X12_here (σ : SC) : Option Int32 := ld (ga σ 4) 8 (gi σ 2) (fun v1 => if v1 ≤ (gi σ 3) then some 0 else ld (gl σ 0) 1280 ((160 * (gi σ 2)) + (gi σ 3)) (fun v2 => some (v2.toInt32)))
theorem mi_X12_here : MI yX12_here cX12_here 1 (some .int) 0 := ⟨im_X12_here, se_X12_here, in_X12, co_X12_here, by decide, by decide, by decide +kernel⟩
set_option maxRecDepth 100000 in
set_option maxHeartbeats 4000000 in
theorem ct_X12_here (l : Launch) (G : EN) (A : Nat → Nat) (σ : SC) (sz : Nat) {r0 : Int32} (h : f_X12_here σ = some r0) : CT l yX12_here cX12_here 1 (some .int) rmX12_here G sz [.ref (A 0)] (wM G A σ) (QI G (va_A (wM G A σ) sz) r0 (wM G A σ)) := by
  unfold f_X12_here at h
  refine CI.intro (lv := [(0, .ref (A 0))]) (by decide) (Nat.le_of_ble_eq_true rfl) rfl ?_
  intro p e s m args below meth c Q B S hret H locs ls hW hl
  have hx := S.1
  have hb := S.2.1
  refine lv_aload_n hx hb dX12_here_0 rfl (lv_at hl 0 rfl) ?_
  refine gM_spot S hW lk_X12_98 dX12_here_1 ?_
  refine lv_aload_n hx hb dX12_here_4 rfl (lv_at hl 0 rfl) ?_
  refine gM_sizes S hW lk_X12_22 dX12_here_5 ?_
  refine lv_aload_n hx hb dX12_here_8 rfl (lv_at hl 0 rfl) ?_
  refine gM_text S hW lk_X12_101 dX12_here_9 ?_
  refine aM_5 S hW h dX12_here_12 (fun v1 _ h => ?_)
  refine bc_ge (tgt := 38) hx hb h dX12_here_13 (by decide) (fun _ h => ?_) (fun _ h => ?_)
  · refine lv_iconst (v := 0) hx hb dX12_here_38 (by decide) ?_
    exact hret H locs _ ls _ (Option.some.inj h) rfl hW dX12_here_39
  · refine lv_aload_n hx hb dX12_here_16 rfl (lv_at hl 0 rfl) ?_
    refine gM_items S hW lk_X12_25 dX12_here_17 ?_
    refine lv_sipush (v := 160) hx hb dX12_here_20 (by decide) ?_
    refine lv_aload_n hx hb dX12_here_23 rfl (lv_at hl 0 rfl) ?_
    refine gM_text S hW lk_X12_101 dX12_here_24 ?_
    refine lv_imul hx hb dX12_here_27 ?_
    refine lv_aload_n hx hb dX12_here_28 rfl (lv_at hl 0 rfl) ?_
    refine gM_spot S hW lk_X12_98 dX12_here_29 ?_
    refine lv_iadd hx hb dX12_here_32 ?_
    refine aM_6 S hW h dX12_here_33 (fun v2 _ h => ?_)
    refine lv_l2i hx hb dX12_here_34 rfl ?_
    refine lv_goto (tgt := 39) hx hb dX12_here_35 (by decide) ?_
    exact hret H locs _ ls _ (Option.some.inj h) rfl hW dX12_here_39
def rmX12_fails : Room := { frames := 0, cells := 0, slots := 0, locals := 0 }
def f_X12_fails (σ : SC) (a1 : Int32) : Option SC := jn (fun (u2 : Int32) => lt (si σ 5 u2) (fun σ3 => lt (si σ3 4 1) (fun σ4 => some σ4))) (fun J1 => if (gi σ 4) = 0 then J1 a1 else J1 (gi σ 5))
theorem mi_X12_fails : MI yX12_fails cX12_fails 2 none 1 := ⟨im_X12_fails, se_X12_fails, in_X12, co_X12_fails, by decide, by decide, by decide +kernel⟩
set_option maxRecDepth 100000 in
set_option maxHeartbeats 4000000 in
theorem ct_X12_fails (l : Launch) (G : EN) (A : Nat → Nat) (σ : SC) (sz : Nat) (a1 : Int32) {σ0 : SC} (h : f_X12_fails σ a1 = some σ0) : CT l yX12_fails cX12_fails 2 none rmX12_fails G sz [.ref (A 0), .int a1] (wM G A σ) (QV G (va_A (wM G A σ) sz) (wM G A σ0)) := by
  unfold f_X12_fails at h
  refine CV.intro (lv := [(0, .ref (A 0)), (1, .int a1)]) (by decide) (Nat.le_of_ble_eq_true rfl) rfl ?_
  intro p e s m args below meth c Q B S hret H locs ls hW hl
  have hx := S.1
  have hb := S.2.1
  refine lv_aload_n hx hb dX12_fails_0 rfl (lv_at hl 0 rfl) ?_
  refine lv_aload_n hx hb dX12_fails_1 rfl (lv_at hl 0 rfl) ?_
  refine gM_isWrong S hW lk_X12_104 dX12_fails_2 ?_
  obtain ⟨J1, eJ1, h⟩ := jn_o h
  have hJ1 : ∀ (u2 : Int32)  (H : Heap) (locs : List Loc) (ls : Array Slot), WS G B s (wM G A σ) H locs → lv_has ls 2 [(0, .ref (A 0))] → J1 u2 = some σ0 → W p l e rmX12_fails s m args below meth c H locs 0 0 Q (F0 m 16 ls [.int u2, .ref (A 0)]) := by
    subst eJ1
    intro u2 H locs ls hW hl h
    refine pM_fault S hW lk_X12_32 dX12_fails_16 (fun σ3 H locs eσ3 hW => ?_)
    have h := lt_at eσ3 h
    refine lv_aload_n hx hb dX12_fails_19 rfl (lv_at hl 0 rfl) ?_
    refine lv_iconst (v := 1) hx hb dX12_fails_20 (by decide) ?_
    refine pM_isWrong (Or.inr rfl) S hW lk_X12_104 dX12_fails_21 (fun σ4 H locs eσ4 hW => ?_)
    have h := lt_at eσ4 h
    exact ret_vs (wf := wM G A) hret h hW dX12_fails_24
  clear eJ1
  refine bz_eq (tgt := 15) hx hb h dX12_fails_5 (by decide) (fun _ h => ?_) (fun _ h => ?_)
  · refine lv_iload_n hx hb dX12_fails_15 rfl (lv_at hl 1 rfl) ?_
    exact hJ1 a1 _ _ _ hW (lv_sub hl [0] rfl) h
  · refine lv_aload_n hx hb dX12_fails_8 rfl (lv_at hl 0 rfl) ?_
    refine gM_fault S hW lk_X12_32 dX12_fails_9 ?_
    refine lv_goto (tgt := 16) hx hb dX12_fails_12 (by decide) ?_
    exact hJ1 (gi σ 5) _ _ _ hW (lv_sub hl [0] rfl) h
def rmX12_must : Room := { frames := 1, cells := 0, slots := 0, locals := 21 }
def f_X12_must (σ : SC) (a1 : Int32) : Option SC := if (gi σ 4) = 0 then ld (ga σ 4) 8 (gi σ 2) (fun v1 => if v1 ≤ (gi σ 3) then bd (f_X12_fails σ (gi σ 3)) (fun σ3 => some σ3) else bd (f_X12_here σ) (fun v5 => if v5 = a1 then lt (si σ 3 ((gi σ 3) + 1)) (fun σ8 => some σ8) else bd (f_X12_fails σ (gi σ 3)) (fun σ7 => some σ7))) else some σ
theorem mi_X12_must : MI yX12_must cX12_must 2 none 1 := ⟨im_X12_must, se_X12_must, in_X12, co_X12_must, by decide, by decide, by decide +kernel⟩
set_option maxRecDepth 100000 in
set_option maxHeartbeats 4000000 in
theorem ct_X12_must (l : Launch) (G : EN) (A : Nat → Nat) (σ : SC) (sz : Nat) (a1 : Int32) {σ0 : SC} (h : f_X12_must σ a1 = some σ0) : CT l yX12_must cX12_must 2 none rmX12_must G sz [.ref (A 0), .int a1] (wM G A σ) (QV G (va_A (wM G A σ) sz) (wM G A σ0)) := by
  unfold f_X12_must at h
  refine CV.intro (lv := [(0, .ref (A 0)), (1, .int a1)]) (by decide) (Nat.le_of_ble_eq_true rfl) rfl ?_
  intro p e s m args below meth c Q B S hret H locs ls hW hl
  have hx := S.1
  have hb := S.2.1
  refine lv_aload_n hx hb dX12_must_0 rfl (lv_at hl 0 rfl) ?_
  refine gM_isWrong S hW lk_X12_104 dX12_must_1 ?_
  refine bz_eq (tgt := 8) hx hb h dX12_must_4 (by decide) (fun _ h => ?_) (fun _ h => ?_)
  · refine lv_aload_n hx hb dX12_must_8 rfl (lv_at hl 0 rfl) ?_
    refine gM_spot S hW lk_X12_98 dX12_must_9 ?_
    refine lv_aload_n hx hb dX12_must_12 rfl (lv_at hl 0 rfl) ?_
    refine gM_sizes S hW lk_X12_22 dX12_must_13 ?_
    refine lv_aload_n hx hb dX12_must_16 rfl (lv_at hl 0 rfl) ?_
    refine gM_text S hW lk_X12_101 dX12_must_17 ?_
    refine aM_5 S hW h dX12_must_20 (fun v1 _ h => ?_)
    refine bc_ge (tgt := 45) hx hb h dX12_must_21 (by decide) (fun _ h => ?_) (fun _ h => ?_)
    · refine lv_aload_n hx hb dX12_must_45 rfl (lv_at hl 0 rfl) ?_
      refine lv_aload_n hx hb dX12_must_46 rfl (lv_at hl 0 rfl) ?_
      refine gM_spot S hW lk_X12_98 dX12_must_47 ?_
      obtain ⟨σ3, h2, h⟩ := bd_o h
      refine back_v (rest := []) hW (run_V S hW (ct_X12_fails l G A σ _ (gi σ 3) h2) mi_X12_fails lk_X12_112 (eM_0 G A σ) rfl rfl rfl hl (Nat.le_of_ble_eq_true rfl) dX12_must_50 ⟨Nat.le_of_ble_eq_true rfl, Nat.le_of_ble_eq_true rfl⟩ rfl rfl) (fun H locs hW => ?_)
      exact ret_vs (wf := wM G A) hret h hW dX12_must_53
    · refine lv_aload_n hx hb dX12_must_24 rfl (lv_at hl 0 rfl) ?_
      obtain ⟨v5, h4, h⟩ := bd_o h
      refine back_i (rest := []) hW (run_V S hW (ct_X12_here l G A σ _ h4) mi_X12_here lk_X12_108 (eM_0 G A σ) rfl rfl rfl hl (Nat.le_of_ble_eq_true rfl) dX12_must_25 ⟨Nat.le_of_ble_eq_true rfl, Nat.le_of_ble_eq_true rfl⟩ rfl rfl) (fun H locs hW => ?_)
      refine lv_iload_n hx hb dX12_must_28 rfl (lv_at hl 1 rfl) ?_
      refine bc_ne (tgt := 45) hx hb h dX12_must_29 (by decide) (fun _ h => ?_) (fun _ h => ?_)
      · refine lv_aload_n hx hb dX12_must_32 rfl (lv_at hl 0 rfl) ?_
        refine lv_dup hx hb dX12_must_33 rfl ?_
        refine gM_spot S hW lk_X12_98 dX12_must_34 ?_
        refine lv_iconst (v := 1) hx hb dX12_must_37 (by decide) ?_
        refine lv_iadd hx hb dX12_must_38 ?_
        refine pM_spot S hW lk_X12_98 dX12_must_39 (fun σ8 H locs eσ8 hW => ?_)
        have h := lt_at eσ8 h
        refine lv_goto (tgt := 53) hx hb dX12_must_42 (by decide) ?_
        exact ret_vs (wf := wM G A) hret h hW dX12_must_53
      · refine lv_aload_n hx hb dX12_must_45 rfl (lv_at hl 0 rfl) ?_
        refine lv_aload_n hx hb dX12_must_46 rfl (lv_at hl 0 rfl) ?_
        refine gM_spot S hW lk_X12_98 dX12_must_47 ?_
        obtain ⟨σ7, h6, h⟩ := bd_o h
        refine back_v (rest := []) hW (run_V S hW (ct_X12_fails l G A σ _ (gi σ 3) h6) mi_X12_fails lk_X12_112 (eM_0 G A σ) rfl rfl rfl hl (Nat.le_of_ble_eq_true rfl) dX12_must_50 ⟨Nat.le_of_ble_eq_true rfl, Nat.le_of_ble_eq_true rfl⟩ rfl rfl) (fun H locs hW => ?_)
        exact ret_vs (wf := wM G A) hret h hW dX12_must_53
  · exact ret_vs (wf := wM G A) hret h hW dX12_must_7
def rmX12_isDigit : Room := { frames := 1, cells := 0, slots := 0, locals := 22 }
def f_X12_isDigit (σ : SC) : Option Int32 := ld (ga σ 4) 8 (gi σ 2) (fun v1 => if v1 ≤ (gi σ 3) then some 0 else bd (f_X12_here σ) (fun v3 => if (f_X12_in v3 48 57) = 0 then some 0 else some 1))
theorem mi_X12_isDigit : MI yX12_isDigit cX12_isDigit 1 (some .boolean) 0 := ⟨im_X12_isDigit, se_X12_isDigit, in_X12, co_X12_isDigit, by decide, by decide, by decide +kernel⟩
set_option maxRecDepth 100000 in
set_option maxHeartbeats 4000000 in
theorem ct_X12_isDigit (l : Launch) (G : EN) (A : Nat → Nat) (σ : SC) (sz : Nat) {r0 : Int32} (h : f_X12_isDigit σ = some r0) : CT l yX12_isDigit cX12_isDigit 1 (some .boolean) rmX12_isDigit G sz [.ref (A 0)] (wM G A σ) (QI G (va_A (wM G A σ) sz) r0 (wM G A σ)) := by
  unfold f_X12_isDigit at h
  refine CI.intro (lv := [(0, .ref (A 0))]) (by decide) (Nat.le_of_ble_eq_true rfl) rfl ?_
  intro p e s m args below meth c Q B S hret H locs ls hW hl
  have hx := S.1
  have hb := S.2.1
  refine lv_aload_n hx hb dX12_isDigit_0 rfl (lv_at hl 0 rfl) ?_
  refine gM_spot S hW lk_X12_98 dX12_isDigit_1 ?_
  refine lv_aload_n hx hb dX12_isDigit_4 rfl (lv_at hl 0 rfl) ?_
  refine gM_sizes S hW lk_X12_22 dX12_isDigit_5 ?_
  refine lv_aload_n hx hb dX12_isDigit_8 rfl (lv_at hl 0 rfl) ?_
  refine gM_text S hW lk_X12_101 dX12_isDigit_9 ?_
  refine aM_5 S hW h dX12_isDigit_12 (fun v1 _ h => ?_)
  refine bc_ge (tgt := 34) hx hb h dX12_isDigit_13 (by decide) (fun _ h => ?_) (fun _ h => ?_)
  · refine lv_iconst (v := 0) hx hb dX12_isDigit_34 (by decide) ?_
    exact hret H locs _ ls _ (Option.some.inj h) (nar_z (Or.inl rfl)) hW dX12_isDigit_35
  · refine lv_aload_n hx hb dX12_isDigit_16 rfl (lv_at hl 0 rfl) ?_
    obtain ⟨v3, h2, h⟩ := bd_o h
    refine back_i (rest := []) hW (run_V S hW (ct_X12_here l G A σ _ h2) mi_X12_here lk_X12_108 (eM_0 G A σ) rfl rfl rfl hl (Nat.le_of_ble_eq_true rfl) dX12_isDigit_17 ⟨Nat.le_of_ble_eq_true rfl, Nat.le_of_ble_eq_true rfl⟩ rfl rfl) (fun H locs hW => ?_)
    refine lv_bipush (v := 48) hx hb dX12_isDigit_20 (by decide) ?_
    refine lv_bipush (v := 57) hx hb dX12_isDigit_22 (by decide) ?_
    refine back_i (rest := []) hW (run_S S hW (ct_X12_in l G A σ _ v3 48 57 rfl) ms_X12_in lk_X12_67 rfl rfl hl (Nat.le_of_ble_eq_true rfl) dX12_isDigit_24 ⟨Nat.le_of_ble_eq_true rfl, Nat.le_of_ble_eq_true rfl⟩ rfl rfl) (fun H locs hW => ?_)
    refine bz_eq (tgt := 34) hx hb h dX12_isDigit_27 (by decide) (fun _ h => ?_) (fun _ h => ?_)
    · refine lv_iconst (v := 0) hx hb dX12_isDigit_34 (by decide) ?_
      exact hret H locs _ ls _ (Option.some.inj h) (nar_z (Or.inl rfl)) hW dX12_isDigit_35
    · refine lv_iconst (v := 1) hx hb dX12_isDigit_30 (by decide) ?_
      refine lv_goto (tgt := 35) hx hb dX12_isDigit_31 (by decide) ?_
      exact hret H locs _ ls _ (Option.some.inj h) (nar_z (Or.inr rfl)) hW dX12_isDigit_35
def rmX12_number : Room := { frames := 2, cells := 0, slots := 0, locals := 42 }
def f_X12_number (σ : SC) (a1 : Int32) (a2 : Int32) : Option (Int32 × SC) := if (gi σ 4) = 0 then bd (f_X12_isDigit σ) (fun v4 => if v4 = 0 then bd (f_X12_fails σ (gi σ 3)) (fun σ22 => some (a1, σ22)) else lt (gi σ 3) (fun v5 => bd (f_X12_here σ) (fun v7 => lt (v7 - 48) (fun v8 => lt (si σ 3 ((gi σ 3) + 1)) (fun σ9 => bd (f_X12_isDigit σ9) (fun v11 => jn (fun (σ13 : SC) (u14 : Int32) => if (f_X12_in u14 a1 a2) = 0 then bd (f_X12_fails σ13 v5) (fun σ16 => some (a1, σ16)) else some (u14, σ13)) (fun J12 => if v11 = 0 then J12 σ9 v8 else bd (f_X12_here σ9) (fun v18 => lt (((10 * v8) + v18) - 48) (fun v19 => lt (si σ9 3 ((gi σ9 3) + 1)) (fun σ20 => J12 σ20 v19)))))))))) else bd (f_X12_fails σ (gi σ 3)) (fun σ2 => some (a1, σ2))
theorem mi_X12_number : MI yX12_number cX12_number 5 (some .int) 2 := ⟨im_X12_number, se_X12_number, in_X12, co_X12_number, by decide, by decide, by decide +kernel⟩
set_option maxRecDepth 100000 in
set_option maxHeartbeats 4000000 in
theorem ct_X12_number (l : Launch) (G : EN) (A : Nat → Nat) (σ : SC) (sz : Nat) (a1 : Int32) (a2 : Int32) {r0 : Int32} {σ0 : SC} (h : f_X12_number σ a1 a2 = some (r0, σ0)) : CT l yX12_number cX12_number 5 (some .int) rmX12_number G sz [.ref (A 0), .int a1, .int a2] (wM G A σ) (QI G (va_A (wM G A σ) sz) r0 (wM G A σ0)) := by
  unfold f_X12_number at h
  refine CI.intro (lv := [(0, .ref (A 0)), (1, .int a1), (2, .int a2)]) (by decide) (Nat.le_of_ble_eq_true rfl) rfl ?_
  intro p e s m args below meth c Q B S hret H locs ls hW hl
  have hx := S.1
  have hb := S.2.1
  refine lv_aload_n hx hb dX12_number_0 rfl (lv_at hl 0 rfl) ?_
  refine gM_isWrong S hW lk_X12_104 dX12_number_1 ?_
  refine bz_ne (tgt := 14) hx hb h dX12_number_4 (by decide) (fun _ h => ?_) (fun _ h => ?_)
  · refine lv_aload_n hx hb dX12_number_7 rfl (lv_at hl 0 rfl) ?_
    obtain ⟨v4, h3, h⟩ := bd_o h
    refine back_i (rest := []) hW (run_V S hW (ct_X12_isDigit l G A σ _ h3) mi_X12_isDigit lk_X12_116 (eM_0 G A σ) rfl rfl rfl hl (Nat.le_of_ble_eq_true rfl) dX12_number_8 ⟨Nat.le_of_ble_eq_true rfl, Nat.le_of_ble_eq_true rfl⟩ rfl rfl) (fun H locs hW => ?_)
    refine bz_ne (tgt := 24) hx hb h dX12_number_11 (by decide) (fun _ h => ?_) (fun _ h => ?_)
    · refine lv_aload_n hx hb dX12_number_14 rfl (lv_at hl 0 rfl) ?_
      refine lv_aload_n hx hb dX12_number_15 rfl (lv_at hl 0 rfl) ?_
      refine gM_spot S hW lk_X12_98 dX12_number_16 ?_
      obtain ⟨σ22, h21, h⟩ := bd_o h
      refine back_v (rest := []) hW (run_V S hW (ct_X12_fails l G A σ _ (gi σ 3) h21) mi_X12_fails lk_X12_112 (eM_0 G A σ) rfl rfl rfl hl (Nat.le_of_ble_eq_true rfl) dX12_number_19 ⟨Nat.le_of_ble_eq_true rfl, Nat.le_of_ble_eq_true rfl⟩ rfl rfl) (fun H locs hW => ?_)
      refine lv_iload_n hx hb dX12_number_22 rfl (lv_at hl 1 rfl) ?_
      exact ret_is (wf := wM G A) hret h rfl hW dX12_number_23
    · refine lv_aload_n hx hb dX12_number_24 rfl (lv_at hl 0 rfl) ?_
      refine gM_spot S hW lk_X12_98 dX12_number_25 ?_
      refine nm_i h (fun v5 h => ?_)
      refine lv_istore_n (lv' := [(3, .int v5), (0, .ref (A 0)), (1, .int a1), (2, .int a2)]) hx hb dX12_number_28 rfl hl (by decide) rfl (fun ls hl => ?_)
      refine lv_aload_n hx hb dX12_number_29 rfl (lv_at hl 1 rfl) ?_
      obtain ⟨v7, h6, h⟩ := bd_o h
      refine back_i (rest := []) hW (run_V S hW (ct_X12_here l G A σ _ h6) mi_X12_here lk_X12_108 (eM_0 G A σ) rfl rfl rfl hl (Nat.le_of_ble_eq_true rfl) dX12_number_30 ⟨Nat.le_of_ble_eq_true rfl, Nat.le_of_ble_eq_true rfl⟩ rfl rfl) (fun H locs hW => ?_)
      refine lv_bipush (v := 48) hx hb dX12_number_33 (by decide) ?_
      refine lv_isub hx hb dX12_number_35 ?_
      refine nm_i h (fun v8 h => ?_)
      refine lv_istore (lv' := [(4, .int v8), (3, .int v5), (0, .ref (A 0)), (1, .int a1), (2, .int a2)]) hx hb dX12_number_36 hl (by decide) rfl (fun ls hl => ?_)
      refine lv_aload_n hx hb dX12_number_38 rfl (lv_at hl 2 rfl) ?_
      refine lv_dup hx hb dX12_number_39 rfl ?_
      refine gM_spot S hW lk_X12_98 dX12_number_40 ?_
      refine lv_iconst (v := 1) hx hb dX12_number_43 (by decide) ?_
      refine lv_iadd hx hb dX12_number_44 ?_
      refine pM_spot S hW lk_X12_98 dX12_number_45 (fun σ9 H locs eσ9 hW => ?_)
      have h := lt_at eσ9 h
      refine lv_aload_n hx hb dX12_number_48 rfl (lv_at hl 2 rfl) ?_
      obtain ⟨v11, h10, h⟩ := bd_o h
      refine back_i (rest := []) hW (run_V S hW (ct_X12_isDigit l G A σ9 _ h10) mi_X12_isDigit lk_X12_116 (eM_0 G A σ9) rfl rfl rfl hl (Nat.le_of_ble_eq_true rfl) dX12_number_49 ⟨Nat.le_of_ble_eq_true rfl, Nat.le_of_ble_eq_true rfl⟩ rfl rfl) (fun H locs hW => ?_)
      obtain ⟨J12, eJ12, h⟩ := jn_o h
      have hJ12 : ∀ (σ13 : SC) (u14 : Int32)  (H : Heap) (locs : List Loc) (ls : Array Slot), WS G B s (wM G A σ13) H locs → lv_has ls 5 [(0, .ref (A 0)), (1, .int a1), (2, .int a2), (3, .int v5), (4, .int u14)] → J12 σ13 u14 = some (r0, σ0) → W p l e rmX12_number s m args below meth c H locs 0 0 Q (F0 m 80 ls []) := by
        subst eJ12
        intro σ13 u14 H locs ls hW hl h
        refine lv_iload hx hb dX12_number_80 (lv_at hl 4 rfl) ?_
        refine lv_iload_n hx hb dX12_number_82 rfl (lv_at hl 1 rfl) ?_
        refine lv_iload_n hx hb dX12_number_83 rfl (lv_at hl 2 rfl) ?_
        refine back_i (rest := []) hW (run_S S hW (ct_X12_in l G A σ13 _ u14 a1 a2 rfl) ms_X12_in lk_X12_67 rfl rfl hl (Nat.le_of_ble_eq_true rfl) dX12_number_84 ⟨Nat.le_of_ble_eq_true rfl, Nat.le_of_ble_eq_true rfl⟩ rfl rfl) (fun H locs hW => ?_)
        refine bz_ne (tgt := 97) hx hb h dX12_number_87 (by decide) (fun _ h => ?_) (fun _ h => ?_)
        · refine lv_aload_n hx hb dX12_number_90 rfl (lv_at hl 0 rfl) ?_
          refine lv_iload_n hx hb dX12_number_91 rfl (lv_at hl 3 rfl) ?_
          obtain ⟨σ16, h15, h⟩ := bd_o h
          refine back_v (rest := []) hW (run_V S hW (ct_X12_fails l G A σ13 _ v5 h15) mi_X12_fails lk_X12_112 (eM_0 G A σ13) rfl rfl rfl hl (Nat.le_of_ble_eq_true rfl) dX12_number_92 ⟨Nat.le_of_ble_eq_true rfl, Nat.le_of_ble_eq_true rfl⟩ rfl rfl) (fun H locs hW => ?_)
          refine lv_iload_n hx hb dX12_number_95 rfl (lv_at hl 1 rfl) ?_
          exact ret_is (wf := wM G A) hret h rfl hW dX12_number_96
        · refine lv_iload hx hb dX12_number_97 (lv_at hl 4 rfl) ?_
          exact ret_is (wf := wM G A) hret h rfl hW dX12_number_99
      clear eJ12
      refine bz_eq (tgt := 80) hx hb h dX12_number_52 (by decide) (fun _ h => ?_) (fun _ h => ?_)
      · exact hJ12 σ9 v8 _ _ _ hW (lv_sub hl [2, 3, 4, 1, 0] rfl) h
      · refine lv_bipush (v := 10) hx hb dX12_number_55 (by decide) ?_
        refine lv_iload hx hb dX12_number_57 (lv_at hl 0 rfl) ?_
        refine lv_imul hx hb dX12_number_59 ?_
        refine lv_aload_n hx hb dX12_number_60 rfl (lv_at hl 2 rfl) ?_
        obtain ⟨v18, h17, h⟩ := bd_o h
        refine back_i (rest := [.int (10 * v8)]) hW (run_V S hW (ct_X12_here l G A σ9 _ h17) mi_X12_here lk_X12_108 (eM_0 G A σ9) rfl rfl rfl hl (Nat.le_of_ble_eq_true rfl) dX12_number_61 ⟨Nat.le_of_ble_eq_true rfl, Nat.le_of_ble_eq_true rfl⟩ rfl rfl) (fun H locs hW => ?_)
        refine lv_iadd hx hb dX12_number_64 ?_
        refine lv_bipush (v := 48) hx hb dX12_number_65 (by decide) ?_
        refine lv_isub hx hb dX12_number_67 ?_
        refine nm_i h (fun v19 h => ?_)
        refine lv_istore (lv' := [(4, .int v19), (3, .int v5), (0, .ref (A 0)), (1, .int a1), (2, .int a2)]) hx hb dX12_number_68 hl (by decide) rfl (fun ls hl => ?_)
        refine lv_aload_n hx hb dX12_number_70 rfl (lv_at hl 2 rfl) ?_
        refine lv_dup hx hb dX12_number_71 rfl ?_
        refine gM_spot S hW lk_X12_98 dX12_number_72 ?_
        refine lv_iconst (v := 1) hx hb dX12_number_75 (by decide) ?_
        refine lv_iadd hx hb dX12_number_76 ?_
        refine pM_spot S hW lk_X12_98 dX12_number_77 (fun σ20 H locs eσ20 hW => ?_)
        have h := lt_at eσ20 h
        exact hJ12 σ20 v19 _ _ _ hW (lv_sub hl [2, 3, 4, 1, 0] rfl) h
  · refine lv_aload_n hx hb dX12_number_14 rfl (lv_at hl 0 rfl) ?_
    refine lv_aload_n hx hb dX12_number_15 rfl (lv_at hl 0 rfl) ?_
    refine gM_spot S hW lk_X12_98 dX12_number_16 ?_
    obtain ⟨σ2, h1, h⟩ := bd_o h
    refine back_v (rest := []) hW (run_V S hW (ct_X12_fails l G A σ _ (gi σ 3) h1) mi_X12_fails lk_X12_112 (eM_0 G A σ) rfl rfl rfl hl (Nat.le_of_ble_eq_true rfl) dX12_number_19 ⟨Nat.le_of_ble_eq_true rfl, Nat.le_of_ble_eq_true rfl⟩ rfl rfl) (fun H locs hW => ?_)
    refine lv_iload_n hx hb dX12_number_22 rfl (lv_at hl 1 rfl) ?_
    exact ret_is (wf := wM G A) hret h rfl hW dX12_number_23
def rmX12_set_ : Room := { frames := 3, cells := 0, slots := 0, locals := 66 }
def LX12_set__28 (K : SC → Int32 → Option (Int32 × SC)) : Nat → SC → Int32 → Option (Int32 × SC)
  | 0, _, _ => none
  | k + 1, σ, y1 => if (gi σ 4) = 0 then ld (ga σ 4) 8 (gi σ 2) (fun v7 => if v7 ≤ (gi σ 3) then K σ y1 else bd (f_X12_here σ) (fun v9 => if v9 = 44 then lt (si σ 3 ((gi σ 3) + 1)) (fun σ10 => bd2 (f_X12_number σ10 0 29) (fun v13 σ12 => lt (y1 ||| (1 <<< (v13 &&& 31))) (fun v14 => LX12_set__28 K k σ12 v14))) else K σ y1)) else K σ y1
def f_X12_set_ (n : Nat) (σ : SC) : Option (Int32 × SC) := if (gi σ 4) = 0 then bd (f_X12_isDigit σ) (fun v2 => if v2 = 0 then some (0, σ) else bd2 (f_X12_number σ 0 29) (fun v5 σ4 => lt (1 <<< (v5 &&& 31)) (fun v6 => LX12_set__28 (fun σ15 w16 => some (w16, σ15)) n σ4 v6))) else some (0, σ)
theorem mi_X12_set_ : MI yX12_set_ cX12_set_ 2 (some .int) 0 := ⟨im_X12_set_, se_X12_set_, in_X12, co_X12_set_, by decide, by decide, by decide +kernel⟩
set_option maxRecDepth 100000 in
set_option maxHeartbeats 4000000 in
theorem ct_X12_set_ (l : Launch) (n : Nat) (G : EN) (A : Nat → Nat) (σ : SC) (sz : Nat) {r0 : Int32} {σ0 : SC} (h : f_X12_set_ n σ = some (r0, σ0)) : CT l yX12_set_ cX12_set_ 2 (some .int) rmX12_set_ G sz [.ref (A 0)] (wM G A σ) (QI G (va_A (wM G A σ) sz) r0 (wM G A σ0)) := by
  unfold f_X12_set_ at h
  refine CI.intro (lv := [(0, .ref (A 0))]) (by decide) (Nat.le_of_ble_eq_true rfl) rfl ?_
  intro p e s m args below meth c Q B S hret H locs ls hW hl
  have hx := S.1
  have hb := S.2.1
  refine lv_iconst (v := 0) hx hb dX12_set__0 (by decide) ?_
  refine lv_istore_n (lv' := [(1, .int 0), (0, .ref (A 0))]) hx hb dX12_set__1 rfl hl (by decide) rfl (fun ls hl => ?_)
  refine lv_aload_n hx hb dX12_set__2 rfl (lv_at hl 1 rfl) ?_
  refine gM_isWrong S hW lk_X12_104 dX12_set__3 ?_
  refine bz_ne (tgt := 16) hx hb h dX12_set__6 (by decide) (fun _ h => ?_) (fun _ h => ?_)
  · refine lv_aload_n hx hb dX12_set__9 rfl (lv_at hl 1 rfl) ?_
    obtain ⟨v2, h1, h⟩ := bd_o h
    refine back_i (rest := []) hW (run_V S hW (ct_X12_isDigit l G A σ _ h1) mi_X12_isDigit lk_X12_116 (eM_0 G A σ) rfl rfl rfl hl (Nat.le_of_ble_eq_true rfl) dX12_set__10 ⟨Nat.le_of_ble_eq_true rfl, Nat.le_of_ble_eq_true rfl⟩ rfl rfl) (fun H locs hW => ?_)
    refine bz_ne (tgt := 18) hx hb h dX12_set__13 (by decide) (fun _ h => ?_) (fun _ h => ?_)
    · refine lv_iload_n hx hb dX12_set__16 rfl (lv_at hl 0 rfl) ?_
      exact ret_is (wf := wM G A) hret h rfl hW dX12_set__17
    · refine lv_iconst (v := 1) hx hb dX12_set__18 (by decide) ?_
      refine lv_aload_n hx hb dX12_set__19 rfl (lv_at hl 1 rfl) ?_
      refine lv_iconst (v := 0) hx hb dX12_set__20 (by decide) ?_
      refine lv_bipush (v := 29) hx hb dX12_set__21 (by decide) ?_
      obtain ⟨v5, σ4, h3, h⟩ := bd2_o h
      refine back_i (rest := [.int 1]) hW (run_V S hW (ct_X12_number l G A σ _ 0 29 h3) mi_X12_number lk_X12_120 (eM_0 G A σ) rfl rfl rfl hl (Nat.le_of_ble_eq_true rfl) dX12_set__23 ⟨Nat.le_of_ble_eq_true rfl, Nat.le_of_ble_eq_true rfl⟩ rfl rfl) (fun H locs hW => ?_)
      refine lv_ishl hx hb dX12_set__26 ?_
      refine nm_i h (fun v6 h => ?_)
      refine lv_istore_n (lv' := [(1, .int v6), (0, .ref (A 0))]) hx hb dX12_set__27 rfl hl (by decide) rfl (fun ls hl => ?_)
      have hL28 : ∀  (K : SC → Int32 → Option (Int32 × SC)), (∀ (σ : SC) (z1 : Int32) (H : Heap) (locs : List Loc) (ls : Array Slot), WS G B s (wM G A σ) H locs → lv_has ls 2 [(1, .int z1)] → K σ z1 = some (r0, σ0) → W p l e rmX12_set_ s m args below meth c H locs 0 0 Q (F0 m 85 ls [])) → ∀ (k : Nat) (σ : SC) (y1 : Int32)  (H : Heap) (locs : List Loc) (ls : Array Slot), WS G B s (wM G A σ) H locs → lv_has ls 2 [(0, .ref (A 0)), (1, .int y1)] → LX12_set__28 K k σ y1 = some (r0, σ0) → W p l e rmX12_set_ s m args below meth c H locs 0 0 Q (F0 m 28 ls []) := by
        intro  K hK k
        induction k with
        | zero => intro σ y1 H locs ls hW hl h; rw [LX12_set__28] at h; cases h
        | succ k ih =>
          intro σ y1 H locs ls hW hl h
          rw [LX12_set__28] at h
          refine lv_aload_n hx hb dX12_set__28 rfl (lv_at hl 0 rfl) ?_
          refine gM_isWrong S hW lk_X12_104 dX12_set__29 ?_
          refine bz_ne (tgt := 85) hx hb h dX12_set__32 (by decide) (fun _ h => ?_) (fun _ h => ?_)
          · refine lv_aload_n hx hb dX12_set__35 rfl (lv_at hl 0 rfl) ?_
            refine gM_spot S hW lk_X12_98 dX12_set__36 ?_
            refine lv_aload_n hx hb dX12_set__39 rfl (lv_at hl 0 rfl) ?_
            refine gM_sizes S hW lk_X12_22 dX12_set__40 ?_
            refine lv_aload_n hx hb dX12_set__43 rfl (lv_at hl 0 rfl) ?_
            refine gM_text S hW lk_X12_101 dX12_set__44 ?_
            refine aM_5 S hW h dX12_set__47 (fun v7 _ h => ?_)
            refine bc_ge (tgt := 85) hx hb h dX12_set__48 (by decide) (fun _ h => ?_) (fun _ h => ?_)
            · exact hK σ y1 _ _ _ hW (lv_sub hl [1] rfl) h
            · refine lv_aload_n hx hb dX12_set__51 rfl (lv_at hl 0 rfl) ?_
              obtain ⟨v9, h8, h⟩ := bd_o h
              refine back_i (rest := []) hW (run_V S hW (ct_X12_here l G A σ _ h8) mi_X12_here lk_X12_108 (eM_0 G A σ) rfl rfl rfl hl (Nat.le_of_ble_eq_true rfl) dX12_set__52 ⟨Nat.le_of_ble_eq_true rfl, Nat.le_of_ble_eq_true rfl⟩ rfl rfl) (fun H locs hW => ?_)
              refine lv_bipush (v := 44) hx hb dX12_set__55 (by decide) ?_
              refine bc_ne (tgt := 85) hx hb h dX12_set__57 (by decide) (fun _ h => ?_) (fun _ h => ?_)
              · refine lv_aload_n hx hb dX12_set__60 rfl (lv_at hl 0 rfl) ?_
                refine lv_dup hx hb dX12_set__61 rfl ?_
                refine gM_spot S hW lk_X12_98 dX12_set__62 ?_
                refine lv_iconst (v := 1) hx hb dX12_set__65 (by decide) ?_
                refine lv_iadd hx hb dX12_set__66 ?_
                refine pM_spot S hW lk_X12_98 dX12_set__67 (fun σ10 H locs eσ10 hW => ?_)
                have h := lt_at eσ10 h
                refine lv_iload_n hx hb dX12_set__70 rfl (lv_at hl 1 rfl) ?_
                refine lv_iconst (v := 1) hx hb dX12_set__71 (by decide) ?_
                refine lv_aload_n hx hb dX12_set__72 rfl (lv_at hl 0 rfl) ?_
                refine lv_iconst (v := 0) hx hb dX12_set__73 (by decide) ?_
                refine lv_bipush (v := 29) hx hb dX12_set__74 (by decide) ?_
                obtain ⟨v13, σ12, h11, h⟩ := bd2_o h
                refine back_i (rest := [.int 1, .int y1]) hW (run_V S hW (ct_X12_number l G A σ10 _ 0 29 h11) mi_X12_number lk_X12_120 (eM_0 G A σ10) rfl rfl rfl hl (Nat.le_of_ble_eq_true rfl) dX12_set__76 ⟨Nat.le_of_ble_eq_true rfl, Nat.le_of_ble_eq_true rfl⟩ rfl rfl) (fun H locs hW => ?_)
                refine lv_ishl hx hb dX12_set__79 ?_
                refine lv_ior hx hb dX12_set__80 ?_
                refine nm_i h (fun v14 h => ?_)
                refine lv_istore_n (lv' := [(1, .int v14), (0, .ref (A 0))]) hx hb dX12_set__81 rfl hl (by decide) rfl (fun ls hl => ?_)
                refine lv_goto (tgt := 28) hx hb dX12_set__82 (by decide) ?_
                exact ih σ12 v14 _ _ _ hW (lv_sub hl [1, 0] rfl) h
              · exact hK σ y1 _ _ _ hW (lv_sub hl [1] rfl) h
          · exact hK σ y1 _ _ _ hW (lv_sub hl [1] rfl) h
      refine hL28  _ (fun σ15 w16 H locs ls hW hl h => ?_) n σ4 v6 _ _ _ hW (lv_sub hl [1, 0] rfl) h
      refine lv_iload_n hx hb dX12_set__85 rfl (lv_at hl 0 rfl) ?_
      exact ret_is (wf := wM G A) hret h rfl hW dX12_set__86
  · refine lv_iload_n hx hb dX12_set__16 rfl (lv_at hl 0 rfl) ?_
    exact ret_is (wf := wM G A) hret h rfl hW dX12_set__17
def rmX12_word : Room := { frames := 12, cells := 0, slots := 0, locals := 400 }
def LX12_word_44 (y1 : Int32) (y2 : Nat) (y3 : Int32) (K : SC → Option SC) : Nat → SC → Int32 → Option SC
  | 0, _, _ => none
  | k + 1, σ, y4 => if (sln y2) ≤ y4 then K σ else jn (fun (σ5 : SC) => sc y2 y4 (fun v6 => bd (f_X12_must σ5 v6) (fun σ8 => lt (y4 + 1) (fun v9 => LX12_word_44 y1 y2 y3 K k σ8 v9)))) (fun J4 => if y4 = ((sln y2) - 1) then if y1 = 97 then ld (ga σ 0) 173 172 (fun v10 => if (v10 + (gi σ 6)) = 24 then if (gi σ 4) = 0 then bd (f_X12_fails σ y3) (fun σ12 => J4 σ12) else J4 σ else J4 σ) else J4 σ else J4 σ)
def f_X12_word (n : Nat) (σ : SC) (a1 : Int32) : Option SC := jn (fun (u2 : Nat) => lt (gi σ 3) (fun v3 => LX12_word_44 a1 u2 v3 (fun σ13 => some σ13) n σ 0)) (fun J1 => if a1 = 115 then J1 4 else if a1 = 103 then J1 5 else if a1 = 110 then J1 6 else J1 7)
theorem mi_X12_word : MI yX12_word cX12_word 5 none 1 := ⟨im_X12_word, se_X12_word, in_X12, co_X12_word, by decide, by decide, by decide +kernel⟩
set_option maxRecDepth 100000 in
set_option maxHeartbeats 4000000 in
theorem ct_X12_word (l : Launch) (n : Nat) (G : EN) (A : Nat → Nat) (σ : SC) (sz : Nat) (a1 : Int32) {σ0 : SC} (h : f_X12_word n σ a1 = some σ0) : CT l yX12_word cX12_word 5 none rmX12_word G sz [.ref (A 0), .int a1] (wM G A σ) (QV G (va_A (wM G A σ) sz) (wM G A σ0)) := by
  unfold f_X12_word at h
  refine CV.intro (lv := [(0, .ref (A 0)), (1, .int a1)]) (by decide) (Nat.le_of_ble_eq_true rfl) rfl ?_
  intro p e s m args below meth c Q B S hret H locs ls hW hl
  have hx := S.1
  have hb := S.2.1
  refine lv_iload_n hx hb dX12_word_0 rfl (lv_at hl 1 rfl) ?_
  refine lv_bipush (v := 115) hx hb dX12_word_1 (by decide) ?_
  obtain ⟨J1, eJ1, h⟩ := jn_o h
  have hJ1 : ∀ (u2 : Nat) (hu2 : u2 < 8) (H : Heap) (locs : List Loc) (ls : Array Slot), WS G B s (wM G A σ) H locs → lv_has ls 5 [(0, .ref (A 0)), (1, .int a1)] → J1 u2 = some σ0 → W p l e rmX12_word s m args below meth c H locs 0 0 Q (F0 m 35 ls [.ref (G.2.2.1 u2)]) := by
    subst eJ1
    intro u2 hu2 H locs ls hW hl h
    refine lv_astore_n (lv' := [(2, .ref (G.2.2.1 u2)), (0, .ref (A 0)), (1, .int a1)]) hx hb dX12_word_35 rfl hl (by decide) rfl (fun ls hl => ?_)
    refine lv_aload_n hx hb dX12_word_36 rfl (lv_at hl 1 rfl) ?_
    refine gM_spot S hW lk_X12_98 dX12_word_37 ?_
    refine nm_i h (fun v3 h => ?_)
    refine lv_istore_n (lv' := [(3, .int v3), (2, .ref (G.2.2.1 u2)), (0, .ref (A 0)), (1, .int a1)]) hx hb dX12_word_40 rfl hl (by decide) rfl (fun ls hl => ?_)
    refine lv_iconst (v := 0) hx hb dX12_word_41 (by decide) ?_
    refine lv_istore (lv' := [(4, .int 0), (3, .int v3), (2, .ref (G.2.2.1 u2)), (0, .ref (A 0)), (1, .int a1)]) hx hb dX12_word_42 hl (by decide) rfl (fun ls hl => ?_)
    have hL44 : ∀ (y1 : Int32) (y2 : Nat) (y3 : Int32) (hy2 : y2 < 8) (K : SC → Option SC), (∀ (σ : SC) (H : Heap) (locs : List Loc) (ls : Array Slot), WS G B s (wM G A σ) H locs → lv_has ls 5 [] → K σ = some σ0 → W p l e rmX12_word s m args below meth c H locs 0 0 Q (F0 m 116 ls [])) → ∀ (k : Nat) (σ : SC) (y4 : Int32)  (H : Heap) (locs : List Loc) (ls : Array Slot), WS G B s (wM G A σ) H locs → lv_has ls 5 [(0, .ref (A 0)), (1, .int y1), (2, .ref (G.2.2.1 y2)), (3, .int y3), (4, .int y4)] → LX12_word_44 y1 y2 y3 K k σ y4 = some σ0 → W p l e rmX12_word s m args below meth c H locs 0 0 Q (F0 m 44 ls []) := by
      intro y1 y2 y3 hy2 K hK k
      induction k with
      | zero => intro σ y4 H locs ls hW hl h; rw [LX12_word_44] at h; cases h
      | succ k ih =>
        intro σ y4 H locs ls hW hl h
        rw [LX12_word_44] at h
        refine lv_iload hx hb dX12_word_44 (lv_at hl 4 rfl) ?_
        refine lv_aload_n hx hb dX12_word_46 rfl (lv_at hl 2 rfl) ?_
        refine back_i (rest := [.int y4]) hW (run_Str S hW hl (ct_length l G _ hy2) mi_length lk_X12_132 (Nat.le_of_ble_eq_true rfl) dX12_word_47 ⟨Nat.le_of_ble_eq_true rfl, Nat.le_of_ble_eq_true rfl⟩ hy2 rfl rfl rfl rfl rfl) (fun H locs hW => ?_)
        refine bc_ge (tgt := 116) hx hb h dX12_word_50 (by decide) (fun _ h => ?_) (fun _ h => ?_)
        · exact hK σ _ _ _ hW (lv_sub hl [] rfl) h
        · refine lv_iload hx hb dX12_word_53 (lv_at hl 4 rfl) ?_
          refine lv_aload_n hx hb dX12_word_55 rfl (lv_at hl 2 rfl) ?_
          refine back_i (rest := [.int y4]) hW (run_Str S hW hl (ct_length l G _ hy2) mi_length lk_X12_132 (Nat.le_of_ble_eq_true rfl) dX12_word_56 ⟨Nat.le_of_ble_eq_true rfl, Nat.le_of_ble_eq_true rfl⟩ hy2 rfl rfl rfl rfl rfl) (fun H locs hW => ?_)
          refine lv_iconst (v := 1) hx hb dX12_word_59 (by decide) ?_
          refine lv_isub hx hb dX12_word_60 ?_
          obtain ⟨J4, eJ4, h⟩ := jn_o h
          have hJ4 : ∀ (σ5 : SC)  (H : Heap) (locs : List Loc) (ls : Array Slot), WS G B s (wM G A σ5) H locs → lv_has ls 5 [(0, .ref (A 0)), (1, .int y1), (2, .ref (G.2.2.1 y2)), (3, .int y3), (4, .int y4)] → J4 σ5 = some σ0 → W p l e rmX12_word s m args below meth c H locs 0 0 Q (F0 m 100 ls []) := by
            subst eJ4
            intro σ5 H locs ls hW hl h
            refine lv_aload_n hx hb dX12_word_100 rfl (lv_at hl 0 rfl) ?_
            refine lv_aload_n hx hb dX12_word_101 rfl (lv_at hl 2 rfl) ?_
            refine lv_iload hx hb dX12_word_102 (lv_at hl 4 rfl) ?_
            obtain ⟨hk, v6, ev6, h⟩ := sc_o h
            refine back_i (rest := [.ref (A 0)]) hW (run_Str S hW hl (ct_charAt l G _ hy2 hk) mi_charAt lk_X12_140 (Nat.le_of_ble_eq_true rfl) dX12_word_104 ⟨Nat.le_of_ble_eq_true rfl, Nat.le_of_ble_eq_true rfl⟩ hy2 rfl rfl rfl rfl rfl) (fun H locs hW => ?_)
            rw [← ev6]
            obtain ⟨σ8, h7, h⟩ := bd_o h
            refine back_v (rest := []) hW (run_V S hW (ct_X12_must l G A σ5 _ v6 h7) mi_X12_must lk_X12_144 (eM_0 G A σ5) rfl rfl rfl hl (Nat.le_of_ble_eq_true rfl) dX12_word_107 ⟨Nat.le_of_ble_eq_true rfl, Nat.le_of_ble_eq_true rfl⟩ rfl rfl) (fun H locs hW => ?_)
            refine w_iinc (lv' := [(0, .ref (A 0)), (1, .int y1), (2, .ref (G.2.2.1 y2)), (3, .int y3)]) hx hb dX12_word_110 hl (k := 4) rfl (by decide) (by decide) rfl h (fun v9 ls hl h => ?_)
            refine lv_goto (tgt := 44) hx hb dX12_word_113 (by decide) ?_
            exact ih σ8 v9 _ _ _ hW (lv_sub hl [1, 2, 3, 4, 0] rfl) h
          clear eJ4
          refine bc_ne (tgt := 100) hx hb h dX12_word_61 (by decide) (fun _ h => ?_) (fun _ h => ?_)
          · refine lv_iload_n hx hb dX12_word_64 rfl (lv_at hl 1 rfl) ?_
            refine lv_bipush (v := 97) hx hb dX12_word_65 (by decide) ?_
            refine bc_ne (tgt := 100) hx hb h dX12_word_67 (by decide) (fun _ h => ?_) (fun _ h => ?_)
            · refine lv_aload_n hx hb dX12_word_70 rfl (lv_at hl 0 rfl) ?_
              refine gM_s S hW lk_X12_7 dX12_word_71 ?_
              refine lv_sipush (v := 172) hx hb dX12_word_74 (by decide) ?_
              refine aM_1 S hW h dX12_word_77 (fun v10 _ h => ?_)
              refine lv_aload_n hx hb dX12_word_78 rfl (lv_at hl 0 rfl) ?_
              refine gM_acts S hW lk_X12_137 dX12_word_79 ?_
              refine lv_iadd hx hb dX12_word_82 ?_
              refine lv_bipush (v := 24) hx hb dX12_word_83 (by decide) ?_
              refine bc_ne (tgt := 100) hx hb h dX12_word_85 (by decide) (fun _ h => ?_) (fun _ h => ?_)
              · refine lv_aload_n hx hb dX12_word_88 rfl (lv_at hl 0 rfl) ?_
                refine gM_isWrong S hW lk_X12_104 dX12_word_89 ?_
                refine bz_ne (tgt := 100) hx hb h dX12_word_92 (by decide) (fun _ h => ?_) (fun _ h => ?_)
                · refine lv_aload_n hx hb dX12_word_95 rfl (lv_at hl 0 rfl) ?_
                  refine lv_iload_n hx hb dX12_word_96 rfl (lv_at hl 3 rfl) ?_
                  obtain ⟨σ12, h11, h⟩ := bd_o h
                  refine back_v (rest := []) hW (run_V S hW (ct_X12_fails l G A σ _ y3 h11) mi_X12_fails lk_X12_112 (eM_0 G A σ) rfl rfl rfl hl (Nat.le_of_ble_eq_true rfl) dX12_word_97 ⟨Nat.le_of_ble_eq_true rfl, Nat.le_of_ble_eq_true rfl⟩ rfl rfl) (fun H locs hW => ?_)
                  exact hJ4 σ12 _ _ _ hW (hl) h
                · exact hJ4 σ _ _ _ hW (hl) h
              · exact hJ4 σ _ _ _ hW (hl) h
            · exact hJ4 σ _ _ _ hW (hl) h
          · exact hJ4 σ _ _ _ hW (hl) h
    refine hL44 a1 u2 v3 hu2 _ (fun σ13 H locs ls hW hl h => ?_) n σ 0 _ _ _ hW (lv_sub hl [3, 4, 2, 1, 0] rfl) h
    exact ret_vs (wf := wM G A) hret h hW dX12_word_116
  clear eJ1
  refine bc_ne (tgt := 11) hx hb h dX12_word_3 (by decide) (fun _ h => ?_) (fun _ h => ?_)
  · refine va_ldcS hx hb S.2.2.2.1 (hW.lit (List.mem_of_getElem? (i := 4) rfl)) dX12_word_6 ?_
    refine lv_goto (tgt := 35) hx hb dX12_word_8 (by decide) ?_
    exact hJ1 4 (by decide) _ _ _ hW (hl) h
  · refine lv_iload_n hx hb dX12_word_11 rfl (lv_at hl 1 rfl) ?_
    refine lv_bipush (v := 103) hx hb dX12_word_12 (by decide) ?_
    refine bc_ne (tgt := 22) hx hb h dX12_word_14 (by decide) (fun _ h => ?_) (fun _ h => ?_)
    · refine va_ldcS hx hb S.2.2.2.1 (hW.lit (List.mem_of_getElem? (i := 5) rfl)) dX12_word_17 ?_
      refine lv_goto (tgt := 35) hx hb dX12_word_19 (by decide) ?_
      exact hJ1 5 (by decide) _ _ _ hW (hl) h
    · refine lv_iload_n hx hb dX12_word_22 rfl (lv_at hl 1 rfl) ?_
      refine lv_bipush (v := 110) hx hb dX12_word_23 (by decide) ?_
      refine bc_ne (tgt := 33) hx hb h dX12_word_25 (by decide) (fun _ h => ?_) (fun _ h => ?_)
      · refine va_ldcS hx hb S.2.2.2.1 (hW.lit (List.mem_of_getElem? (i := 6) rfl)) dX12_word_28 ?_
        refine lv_goto (tgt := 35) hx hb dX12_word_30 (by decide) ?_
        exact hJ1 6 (by decide) _ _ _ hW (hl) h
      · refine va_ldcS hx hb S.2.2.2.1 (hW.lit (List.mem_of_getElem? (i := 7) rfl)) dX12_word_33 ?_
        exact hJ1 7 (by decide) _ _ _ hW (hl) h
def rmX12_item : Room := { frames := 13, cells := 0, slots := 0, locals := 424 }
def f_X12_item (n : Nat) (σ : SC) (a1 : Int32) : Option SC := ld (ga σ 4) 8 (gi σ 2) (fun v1 => jn (fun (u3 : Int32) => bd (f_X12_word n σ u3) (fun σ5 => if (gi σ5 4) = 0 then bd2 (f_X12_set_ n σ5) (fun v8 σ7 => if u3 = 97 then bd (f_X12_must σ7 43) (fun σ10 => bd2 (f_X12_set_ n σ10) (fun v13 σ12 => bd (f_X12_must σ12 45) (fun σ15 => bd2 (f_X12_set_ n σ15) (fun v18 σ17 => bd (f_X12_must σ17 36) (fun σ20 => bd2 (f_X12_number σ20 1 99) (fun v23 σ22 => jn (fun (σ25 : SC) => if a1 = 0 then lt (si σ25 6 ((gi σ25 6) + 1)) (fun σ26 => some σ26) else lt (si σ25 6 ((gi σ25 6) + 0)) (fun σ27 => some σ27)) (fun J24 => if a1 = 0 then J24 σ22 else bd2 (f_X12_comes σ22 v8 v13 v18 v23 0 (-1) (-1)) (fun v30 σ29 => J24 σ29)))))))) else if a1 = 0 then some σ7 else if u3 = 115 then ck 173 168 (lt (sa σ7 0 (upd (ga σ7 0) (168 : Int32).toNatClampNeg v8)) (fun σ33 => some σ33)) else if u3 = 103 then ck 173 169 (lt (sa σ7 0 (upd (ga σ7 0) (169 : Int32).toNatClampNeg v8)) (fun σ32 => some σ32)) else ck 173 170 (lt (sa σ7 0 (upd (ga σ7 0) (170 : Int32).toNatClampNeg v8)) (fun σ31 => some σ31))) else some σ5)) (fun J2 => if v1 ≤ (gi σ 3) then J2 0 else bd (f_X12_here σ) (fun v35 => J2 v35)))
theorem mi_X12_item : MI yX12_item cX12_item 7 none 1 := ⟨im_X12_item, se_X12_item, in_X12, co_X12_item, by decide, by decide, by decide +kernel⟩
set_option maxRecDepth 100000 in
set_option maxHeartbeats 4000000 in
theorem ct_X12_item (l : Launch) (n : Nat) (G : EN) (A : Nat → Nat) (σ : SC) (sz : Nat) (a1 : Int32) {σ0 : SC} (h : f_X12_item n σ a1 = some σ0) : CT l yX12_item cX12_item 7 none rmX12_item G sz [.ref (A 0), .int a1] (wM G A σ) (QV G (va_A (wM G A σ) sz) (wM G A σ0)) := by
  unfold f_X12_item at h
  refine CV.intro (lv := [(0, .ref (A 0)), (1, .int a1)]) (by decide) (Nat.le_of_ble_eq_true rfl) rfl ?_
  intro p e s m args below meth c Q B S hret H locs ls hW hl
  have hx := S.1
  have hb := S.2.1
  refine lv_aload_n hx hb dX12_item_0 rfl (lv_at hl 0 rfl) ?_
  refine gM_spot S hW lk_X12_98 dX12_item_1 ?_
  refine lv_aload_n hx hb dX12_item_4 rfl (lv_at hl 0 rfl) ?_
  refine gM_sizes S hW lk_X12_22 dX12_item_5 ?_
  refine lv_aload_n hx hb dX12_item_8 rfl (lv_at hl 0 rfl) ?_
  refine gM_text S hW lk_X12_101 dX12_item_9 ?_
  refine aM_5 S hW h dX12_item_12 (fun v1 _ h => ?_)
  obtain ⟨J2, eJ2, h⟩ := jn_o h
  have hJ2 : ∀ (u3 : Int32)  (H : Heap) (locs : List Loc) (ls : Array Slot), WS G B s (wM G A σ) H locs → lv_has ls 7 [(0, .ref (A 0)), (1, .int a1)] → J2 u3 = some σ0 → W p l e rmX12_item s m args below meth c H locs 0 0 Q (F0 m 24 ls [.int u3]) := by
    subst eJ2
    intro u3 H locs ls hW hl h
    refine lv_istore_n (lv' := [(2, .int u3), (0, .ref (A 0)), (1, .int a1)]) hx hb dX12_item_24 rfl hl (by decide) rfl (fun ls hl => ?_)
    refine lv_aload_n hx hb dX12_item_25 rfl (lv_at hl 1 rfl) ?_
    refine lv_iload_n hx hb dX12_item_26 rfl (lv_at hl 0 rfl) ?_
    obtain ⟨σ5, h4, h⟩ := bd_o h
    refine back_v (rest := []) hW (run_V S hW (ct_X12_word l n G A σ _ u3 h4) mi_X12_word lk_X12_147 (eM_0 G A σ) rfl rfl rfl hl (Nat.le_of_ble_eq_true rfl) dX12_item_27 ⟨Nat.le_of_ble_eq_true rfl, Nat.le_of_ble_eq_true rfl⟩ rfl rfl) (fun H locs hW => ?_)
    refine lv_aload_n hx hb dX12_item_30 rfl (lv_at hl 1 rfl) ?_
    refine gM_isWrong S hW lk_X12_104 dX12_item_31 ?_
    refine bz_eq (tgt := 38) hx hb h dX12_item_34 (by decide) (fun _ h => ?_) (fun _ h => ?_)
    · refine lv_aload_n hx hb dX12_item_38 rfl (lv_at hl 1 rfl) ?_
      obtain ⟨v8, σ7, h6, h⟩ := bd2_o h
      refine back_i (rest := []) hW (run_V S hW (ct_X12_set_ l n G A σ5 _ h6) mi_X12_set_ lk_X12_150 (eM_0 G A σ5) rfl rfl rfl hl (Nat.le_of_ble_eq_true rfl) dX12_item_39 ⟨Nat.le_of_ble_eq_true rfl, Nat.le_of_ble_eq_true rfl⟩ rfl rfl) (fun H locs hW => ?_)
      refine lv_istore_n (lv' := [(3, .int v8), (2, .int u3), (0, .ref (A 0)), (1, .int a1)]) hx hb dX12_item_42 rfl hl (by decide) rfl (fun ls hl => ?_)
      refine lv_iload_n hx hb dX12_item_43 rfl (lv_at hl 1 rfl) ?_
      refine lv_bipush (v := 97) hx hb dX12_item_44 (by decide) ?_
      refine bc_eq (tgt := 87) hx hb h dX12_item_46 (by decide) (fun _ h => ?_) (fun _ h => ?_)
      · refine lv_aload_n hx hb dX12_item_87 rfl (lv_at hl 2 rfl) ?_
        refine lv_bipush (v := 43) hx hb dX12_item_88 (by decide) ?_
        obtain ⟨σ10, h9, h⟩ := bd_o h
        refine back_v (rest := []) hW (run_V S hW (ct_X12_must l G A σ7 _ 43 h9) mi_X12_must lk_X12_144 (eM_0 G A σ7) rfl rfl rfl hl (Nat.le_of_ble_eq_true rfl) dX12_item_90 ⟨Nat.le_of_ble_eq_true rfl, Nat.le_of_ble_eq_true rfl⟩ rfl rfl) (fun H locs hW => ?_)
        refine lv_aload_n hx hb dX12_item_93 rfl (lv_at hl 2 rfl) ?_
        obtain ⟨v13, σ12, h11, h⟩ := bd2_o h
        refine back_i (rest := []) hW (run_V S hW (ct_X12_set_ l n G A σ10 _ h11) mi_X12_set_ lk_X12_150 (eM_0 G A σ10) rfl rfl rfl hl (Nat.le_of_ble_eq_true rfl) dX12_item_94 ⟨Nat.le_of_ble_eq_true rfl, Nat.le_of_ble_eq_true rfl⟩ rfl rfl) (fun H locs hW => ?_)
        refine lv_istore (lv' := [(4, .int v13), (3, .int v8), (2, .int u3), (0, .ref (A 0)), (1, .int a1)]) hx hb dX12_item_97 hl (by decide) rfl (fun ls hl => ?_)
        refine lv_aload_n hx hb dX12_item_99 rfl (lv_at hl 3 rfl) ?_
        refine lv_bipush (v := 45) hx hb dX12_item_100 (by decide) ?_
        obtain ⟨σ15, h14, h⟩ := bd_o h
        refine back_v (rest := []) hW (run_V S hW (ct_X12_must l G A σ12 _ 45 h14) mi_X12_must lk_X12_144 (eM_0 G A σ12) rfl rfl rfl hl (Nat.le_of_ble_eq_true rfl) dX12_item_102 ⟨Nat.le_of_ble_eq_true rfl, Nat.le_of_ble_eq_true rfl⟩ rfl rfl) (fun H locs hW => ?_)
        refine lv_aload_n hx hb dX12_item_105 rfl (lv_at hl 3 rfl) ?_
        obtain ⟨v18, σ17, h16, h⟩ := bd2_o h
        refine back_i (rest := []) hW (run_V S hW (ct_X12_set_ l n G A σ15 _ h16) mi_X12_set_ lk_X12_150 (eM_0 G A σ15) rfl rfl rfl hl (Nat.le_of_ble_eq_true rfl) dX12_item_106 ⟨Nat.le_of_ble_eq_true rfl, Nat.le_of_ble_eq_true rfl⟩ rfl rfl) (fun H locs hW => ?_)
        refine lv_istore (lv' := [(5, .int v18), (4, .int v13), (3, .int v8), (2, .int u3), (0, .ref (A 0)), (1, .int a1)]) hx hb dX12_item_109 hl (by decide) rfl (fun ls hl => ?_)
        refine lv_aload_n hx hb dX12_item_111 rfl (lv_at hl 4 rfl) ?_
        refine lv_bipush (v := 36) hx hb dX12_item_112 (by decide) ?_
        obtain ⟨σ20, h19, h⟩ := bd_o h
        refine back_v (rest := []) hW (run_V S hW (ct_X12_must l G A σ17 _ 36 h19) mi_X12_must lk_X12_144 (eM_0 G A σ17) rfl rfl rfl hl (Nat.le_of_ble_eq_true rfl) dX12_item_114 ⟨Nat.le_of_ble_eq_true rfl, Nat.le_of_ble_eq_true rfl⟩ rfl rfl) (fun H locs hW => ?_)
        refine lv_aload_n hx hb dX12_item_117 rfl (lv_at hl 4 rfl) ?_
        refine lv_iconst (v := 1) hx hb dX12_item_118 (by decide) ?_
        refine lv_bipush (v := 99) hx hb dX12_item_119 (by decide) ?_
        obtain ⟨v23, σ22, h21, h⟩ := bd2_o h
        refine back_i (rest := []) hW (run_V S hW (ct_X12_number l G A σ20 _ 1 99 h21) mi_X12_number lk_X12_120 (eM_0 G A σ20) rfl rfl rfl hl (Nat.le_of_ble_eq_true rfl) dX12_item_121 ⟨Nat.le_of_ble_eq_true rfl, Nat.le_of_ble_eq_true rfl⟩ rfl rfl) (fun H locs hW => ?_)
        refine lv_istore (lv' := [(6, .int v23), (5, .int v18), (4, .int v13), (3, .int v8), (2, .int u3), (0, .ref (A 0)), (1, .int a1)]) hx hb dX12_item_124 hl (by decide) rfl (fun ls hl => ?_)
        refine lv_iload_n hx hb dX12_item_126 rfl (lv_at hl 6 rfl) ?_
        obtain ⟨J24, eJ24, h⟩ := jn_o h
        have hJ24 : ∀ (σ25 : SC)  (H : Heap) (locs : List Loc) (ls : Array Slot), WS G B s (wM G A σ25) H locs → lv_has ls 7 [(0, .ref (A 0)), (1, .int a1)] → J24 σ25 = some σ0 → W p l e rmX12_item s m args below meth c H locs 0 0 Q (F0 m 145 ls []) := by
          subst eJ24
          intro σ25 H locs ls hW hl h
          refine lv_aload_n hx hb dX12_item_145 rfl (lv_at hl 0 rfl) ?_
          refine lv_dup hx hb dX12_item_146 rfl ?_
          refine gM_acts S hW lk_X12_137 dX12_item_147 ?_
          refine lv_iload_n hx hb dX12_item_150 rfl (lv_at hl 1 rfl) ?_
          refine bz_eq (tgt := 158) hx hb h dX12_item_151 (by decide) (fun _ h => ?_) (fun _ h => ?_)
          · refine lv_iconst (v := 1) hx hb dX12_item_158 (by decide) ?_
            refine lv_iadd hx hb dX12_item_159 ?_
            refine pM_acts S hW lk_X12_137 dX12_item_160 (fun σ26 H locs eσ26 hW => ?_)
            have h := lt_at eσ26 h
            exact ret_vs (wf := wM G A) hret h hW dX12_item_163
          · refine lv_iconst (v := 0) hx hb dX12_item_154 (by decide) ?_
            refine lv_goto (tgt := 159) hx hb dX12_item_155 (by decide) ?_
            refine lv_iadd hx hb dX12_item_159 ?_
            refine pM_acts S hW lk_X12_137 dX12_item_160 (fun σ27 H locs eσ27 hW => ?_)
            have h := lt_at eσ27 h
            exact ret_vs (wf := wM G A) hret h hW dX12_item_163
        clear eJ24
        refine bz_eq (tgt := 145) hx hb h dX12_item_127 (by decide) (fun _ h => ?_) (fun _ h => ?_)
        · exact hJ24 σ22 _ _ _ hW (lv_sub hl [5, 6] rfl) h
        · refine lv_aload_n hx hb dX12_item_130 rfl (lv_at hl 5 rfl) ?_
          refine lv_iload_n hx hb dX12_item_131 rfl (lv_at hl 3 rfl) ?_
          refine lv_iload hx hb dX12_item_132 (lv_at hl 2 rfl) ?_
          refine lv_iload hx hb dX12_item_134 (lv_at hl 1 rfl) ?_
          refine lv_iload hx hb dX12_item_136 (lv_at hl 0 rfl) ?_
          refine lv_iconst (v := 0) hx hb dX12_item_138 (by decide) ?_
          refine lv_iconst (v := (-1)) hx hb dX12_item_139 (by decide) ?_
          refine lv_iconst (v := (-1)) hx hb dX12_item_140 (by decide) ?_
          obtain ⟨v30, σ29, h28, h⟩ := bd2_o h
          refine back_i (rest := []) hW (run_V S hW (ct_X12_comes l G A σ22 _ v8 v13 v18 v23 0 (-1) (-1) h28) mi_X12_comes lk_X12_94 (eM_0 G A σ22) rfl rfl rfl hl (Nat.le_of_ble_eq_true rfl) dX12_item_141 ⟨Nat.le_of_ble_eq_true rfl, Nat.le_of_ble_eq_true rfl⟩ rfl rfl) (fun H locs hW => ?_)
          refine lv_pop hx hb dX12_item_144 rfl ?_
          exact hJ24 σ29 _ _ _ hW (lv_sub hl [5, 6] rfl) h
      · refine lv_iload_n hx hb dX12_item_49 rfl (lv_at hl 3 rfl) ?_
        refine bz_eq (tgt := 86) hx hb h dX12_item_50 (by decide) (fun _ h => ?_) (fun _ h => ?_)
        · exact ret_vs (wf := wM G A) hret h hW dX12_item_86
        · refine lv_aload_n hx hb dX12_item_53 rfl (lv_at hl 2 rfl) ?_
          refine gM_s S hW lk_X12_7 dX12_item_54 ?_
          refine lv_iload_n hx hb dX12_item_57 rfl (lv_at hl 1 rfl) ?_
          refine lv_bipush (v := 115) hx hb dX12_item_58 (by decide) ?_
          refine bc_ne (tgt := 69) hx hb h dX12_item_60 (by decide) (fun _ h => ?_) (fun _ h => ?_)
          · refine lv_sipush (v := 168) hx hb dX12_item_63 (by decide) ?_
            refine lv_goto (tgt := 84) hx hb dX12_item_66 (by decide) ?_
            refine lv_iload_n hx hb dX12_item_84 rfl (lv_at hl 0 rfl) ?_
            refine sM_1 S hW h dX12_item_85 (fun σ33 H locs eσ33 _ h hW => ?_)
            have h := lt_at eσ33 h
            exact ret_vs (wf := wM G A) hret h hW dX12_item_86
          · refine lv_iload_n hx hb dX12_item_69 rfl (lv_at hl 1 rfl) ?_
            refine lv_bipush (v := 103) hx hb dX12_item_70 (by decide) ?_
            refine bc_ne (tgt := 81) hx hb h dX12_item_72 (by decide) (fun _ h => ?_) (fun _ h => ?_)
            · refine lv_sipush (v := 169) hx hb dX12_item_75 (by decide) ?_
              refine lv_goto (tgt := 84) hx hb dX12_item_78 (by decide) ?_
              refine lv_iload_n hx hb dX12_item_84 rfl (lv_at hl 0 rfl) ?_
              refine sM_1 S hW h dX12_item_85 (fun σ32 H locs eσ32 _ h hW => ?_)
              have h := lt_at eσ32 h
              exact ret_vs (wf := wM G A) hret h hW dX12_item_86
            · refine lv_sipush (v := 170) hx hb dX12_item_81 (by decide) ?_
              refine lv_iload_n hx hb dX12_item_84 rfl (lv_at hl 0 rfl) ?_
              refine sM_1 S hW h dX12_item_85 (fun σ31 H locs eσ31 _ h hW => ?_)
              have h := lt_at eσ31 h
              exact ret_vs (wf := wM G A) hret h hW dX12_item_86
    · exact ret_vs (wf := wM G A) hret h hW dX12_item_37
  clear eJ2
  refine bc_ge (tgt := 23) hx hb h dX12_item_13 (by decide) (fun _ h => ?_) (fun _ h => ?_)
  · refine lv_iconst (v := 0) hx hb dX12_item_23 (by decide) ?_
    exact hJ2 0 _ _ _ hW (hl) h
  · refine lv_aload_n hx hb dX12_item_16 rfl (lv_at hl 0 rfl) ?_
    obtain ⟨v35, h34, h⟩ := bd_o h
    refine back_i (rest := []) hW (run_V S hW (ct_X12_here l G A σ _ h34) mi_X12_here lk_X12_108 (eM_0 G A σ) rfl rfl rfl hl (Nat.le_of_ble_eq_true rfl) dX12_item_17 ⟨Nat.le_of_ble_eq_true rfl, Nat.le_of_ble_eq_true rfl⟩ rfl rfl) (fun H locs hW => ?_)
    refine lv_goto (tgt := 24) hx hb dX12_item_20 (by decide) ?_
    exact hJ2 v35 _ _ _ hW (hl) h
def rmX12_goesThrough : Room := { frames := 14, cells := 0, slots := 0, locals := 450 }
def LX12_goesThrough_22 (n : Nat) (y1 : Int32) (K : SC → Int32 → Option (Int32 × SC)) : Nat → SC → Int32 → Option (Int32 × SC)
  | 0, _, _ => none
  | k + 1, σ, y2 => if (gi σ 4) = 0 then ld (ga σ 4) 8 (gi σ 2) (fun v6 => if v6 ≤ (gi σ 3) then K σ y2 else bd (f_X12_must σ 59) (fun σ8 => if (gi σ8 4) = 0 then bd (f_X12_item n σ8 y1) (fun σ10 => lt (y2 + 1) (fun v11 => LX12_goesThrough_22 n y1 K k σ10 v11)) else LX12_goesThrough_22 n y1 K k σ8 y2)) else K σ y2
def f_X12_goesThrough (n : Nat) (σ : SC) (a1 : Int32) : Option (Int32 × SC) := lt (si σ 3 0) (fun σ1 => lt (si σ1 4 0) (fun σ2 => lt (si σ2 6 0) (fun σ3 => bd (f_X12_item n σ3 a1) (fun σ5 => LX12_goesThrough_22 n a1 (fun σ12 w13 => some (w13, σ12)) n σ5 1))))
theorem mi_X12_goesThrough : MI yX12_goesThrough cX12_goesThrough 3 (some .int) 1 := ⟨im_X12_goesThrough, se_X12_goesThrough, in_X12, co_X12_goesThrough, by decide, by decide, by decide +kernel⟩
set_option maxRecDepth 100000 in
set_option maxHeartbeats 4000000 in
theorem ct_X12_goesThrough (l : Launch) (n : Nat) (G : EN) (A : Nat → Nat) (σ : SC) (sz : Nat) (a1 : Int32) {r0 : Int32} {σ0 : SC} (h : f_X12_goesThrough n σ a1 = some (r0, σ0)) : CT l yX12_goesThrough cX12_goesThrough 3 (some .int) rmX12_goesThrough G sz [.ref (A 0), .int a1] (wM G A σ) (QI G (va_A (wM G A σ) sz) r0 (wM G A σ0)) := by
  unfold f_X12_goesThrough at h
  refine CI.intro (lv := [(0, .ref (A 0)), (1, .int a1)]) (by decide) (Nat.le_of_ble_eq_true rfl) rfl ?_
  intro p e s m args below meth c Q B S hret H locs ls hW hl
  have hx := S.1
  have hb := S.2.1
  refine lv_aload_n hx hb dX12_goesThrough_0 rfl (lv_at hl 0 rfl) ?_
  refine lv_iconst (v := 0) hx hb dX12_goesThrough_1 (by decide) ?_
  refine pM_spot S hW lk_X12_98 dX12_goesThrough_2 (fun σ1 H locs eσ1 hW => ?_)
  have h := lt_at eσ1 h
  refine lv_aload_n hx hb dX12_goesThrough_5 rfl (lv_at hl 0 rfl) ?_
  refine lv_iconst (v := 0) hx hb dX12_goesThrough_6 (by decide) ?_
  refine pM_isWrong (Or.inl rfl) S hW lk_X12_104 dX12_goesThrough_7 (fun σ2 H locs eσ2 hW => ?_)
  have h := lt_at eσ2 h
  refine lv_aload_n hx hb dX12_goesThrough_10 rfl (lv_at hl 0 rfl) ?_
  refine lv_iconst (v := 0) hx hb dX12_goesThrough_11 (by decide) ?_
  refine pM_acts S hW lk_X12_137 dX12_goesThrough_12 (fun σ3 H locs eσ3 hW => ?_)
  have h := lt_at eσ3 h
  refine lv_iconst (v := 1) hx hb dX12_goesThrough_15 (by decide) ?_
  refine lv_istore_n (lv' := [(2, .int 1), (0, .ref (A 0)), (1, .int a1)]) hx hb dX12_goesThrough_16 rfl hl (by decide) rfl (fun ls hl => ?_)
  refine lv_aload_n hx hb dX12_goesThrough_17 rfl (lv_at hl 1 rfl) ?_
  refine lv_iload_n hx hb dX12_goesThrough_18 rfl (lv_at hl 2 rfl) ?_
  obtain ⟨σ5, h4, h⟩ := bd_o h
  refine back_v (rest := []) hW (run_V S hW (ct_X12_item l n G A σ3 _ a1 h4) mi_X12_item lk_X12_153 (eM_0 G A σ3) rfl rfl rfl hl (Nat.le_of_ble_eq_true rfl) dX12_goesThrough_19 ⟨Nat.le_of_ble_eq_true rfl, Nat.le_of_ble_eq_true rfl⟩ rfl rfl) (fun H locs hW => ?_)
  have hL22 : ∀ (y1 : Int32) (K : SC → Int32 → Option (Int32 × SC)), (∀ (σ : SC) (z2 : Int32) (H : Heap) (locs : List Loc) (ls : Array Slot), WS G B s (wM G A σ) H locs → lv_has ls 3 [(2, .int z2)] → K σ z2 = some (r0, σ0) → W p l e rmX12_goesThrough s m args below meth c H locs 0 0 Q (F0 m 69 ls [])) → ∀ (k : Nat) (σ : SC) (y2 : Int32)  (H : Heap) (locs : List Loc) (ls : Array Slot), WS G B s (wM G A σ) H locs → lv_has ls 3 [(0, .ref (A 0)), (1, .int y1), (2, .int y2)] → LX12_goesThrough_22 n y1 K k σ y2 = some (r0, σ0) → W p l e rmX12_goesThrough s m args below meth c H locs 0 0 Q (F0 m 22 ls []) := by
    intro y1 K hK k
    induction k with
    | zero => intro σ y2 H locs ls hW hl h; rw [LX12_goesThrough_22] at h; cases h
    | succ k ih =>
      intro σ y2 H locs ls hW hl h
      rw [LX12_goesThrough_22] at h
      refine lv_aload_n hx hb dX12_goesThrough_22 rfl (lv_at hl 0 rfl) ?_
      refine gM_isWrong S hW lk_X12_104 dX12_goesThrough_23 ?_
      refine bz_ne (tgt := 69) hx hb h dX12_goesThrough_26 (by decide) (fun _ h => ?_) (fun _ h => ?_)
      · refine lv_aload_n hx hb dX12_goesThrough_29 rfl (lv_at hl 0 rfl) ?_
        refine gM_spot S hW lk_X12_98 dX12_goesThrough_30 ?_
        refine lv_aload_n hx hb dX12_goesThrough_33 rfl (lv_at hl 0 rfl) ?_
        refine gM_sizes S hW lk_X12_22 dX12_goesThrough_34 ?_
        refine lv_aload_n hx hb dX12_goesThrough_37 rfl (lv_at hl 0 rfl) ?_
        refine gM_text S hW lk_X12_101 dX12_goesThrough_38 ?_
        refine aM_5 S hW h dX12_goesThrough_41 (fun v6 _ h => ?_)
        refine bc_ge (tgt := 69) hx hb h dX12_goesThrough_42 (by decide) (fun _ h => ?_) (fun _ h => ?_)
        · exact hK σ y2 _ _ _ hW (lv_sub hl [2] rfl) h
        · refine lv_aload_n hx hb dX12_goesThrough_45 rfl (lv_at hl 0 rfl) ?_
          refine lv_bipush (v := 59) hx hb dX12_goesThrough_46 (by decide) ?_
          obtain ⟨σ8, h7, h⟩ := bd_o h
          refine back_v (rest := []) hW (run_V S hW (ct_X12_must l G A σ _ 59 h7) mi_X12_must lk_X12_144 (eM_0 G A σ) rfl rfl rfl hl (Nat.le_of_ble_eq_true rfl) dX12_goesThrough_48 ⟨Nat.le_of_ble_eq_true rfl, Nat.le_of_ble_eq_true rfl⟩ rfl rfl) (fun H locs hW => ?_)
          refine lv_aload_n hx hb dX12_goesThrough_51 rfl (lv_at hl 0 rfl) ?_
          refine gM_isWrong S hW lk_X12_104 dX12_goesThrough_52 ?_
          refine bz_ne (tgt := 22) hx hb h dX12_goesThrough_55 (by decide) (fun _ h => ?_) (fun _ h => ?_)
          · refine lv_aload_n hx hb dX12_goesThrough_58 rfl (lv_at hl 0 rfl) ?_
            refine lv_iload_n hx hb dX12_goesThrough_59 rfl (lv_at hl 1 rfl) ?_
            obtain ⟨σ10, h9, h⟩ := bd_o h
            refine back_v (rest := []) hW (run_V S hW (ct_X12_item l n G A σ8 _ y1 h9) mi_X12_item lk_X12_153 (eM_0 G A σ8) rfl rfl rfl hl (Nat.le_of_ble_eq_true rfl) dX12_goesThrough_60 ⟨Nat.le_of_ble_eq_true rfl, Nat.le_of_ble_eq_true rfl⟩ rfl rfl) (fun H locs hW => ?_)
            refine w_iinc (lv' := [(0, .ref (A 0)), (1, .int y1)]) hx hb dX12_goesThrough_63 hl (k := 2) rfl (by decide) (by decide) rfl h (fun v11 ls hl h => ?_)
            refine lv_goto (tgt := 22) hx hb dX12_goesThrough_66 (by decide) ?_
            exact ih σ10 v11 _ _ _ hW (lv_sub hl [1, 2, 0] rfl) h
          · exact ih σ8 y2 _ _ _ hW (hl) h
      · exact hK σ y2 _ _ _ hW (lv_sub hl [2] rfl) h
  refine hL22 a1 _ (fun σ12 w13 H locs ls hW hl h => ?_) n σ5 1 _ _ _ hW (lv_sub hl [1, 2, 0] rfl) h
  refine lv_iload_n hx hb dX12_goesThrough_69 rfl (lv_at hl 0 rfl) ?_
  exact ret_is (wf := wM G A) hret h rfl hW dX12_goesThrough_70
def rmX12_read : Room := { frames := 15, cells := 0, slots := 0, locals := 472 }
def f_X12_read (n : Nat) (σ : SC) (a1 : Int32) : Option (Int32 × SC) := bd (f_X12_wanted σ a1) (fun v2 => if v2 = 0 then lt (si σ 2 a1) (fun σ3 => lt (si σ3 5 (-1)) (fun σ4 => bd2 (f_X12_goesThrough n σ4 0) (fun v7 σ6 => if (gi σ6 4) = 0 then bd2 (f_X12_goesThrough n σ6 1) (fun v10 σ9 => some (v10, σ9)) else bd2 (f_X12_refused σ6 (-6)) (fun v13 σ12 => some (v13, σ12))))) else bd2 (f_X12_refused σ v2) (fun v16 σ15 => some (v16, σ15)))
theorem mi_X12_read : MI yX12_read cX12_read 3 (some .int) 1 := ⟨im_X12_read, se_X12_read, in_X12, co_X12_read, by decide, by decide, by decide +kernel⟩
set_option maxRecDepth 100000 in
set_option maxHeartbeats 4000000 in
theorem ct_X12_read (l : Launch) (n : Nat) (G : EN) (A : Nat → Nat) (σ : SC) (sz : Nat) (a1 : Int32) {r0 : Int32} {σ0 : SC} (h : f_X12_read n σ a1 = some (r0, σ0)) : CT l yX12_read cX12_read 3 (some .int) rmX12_read G sz [.ref (A 0), .int a1] (wM G A σ) (QI G (va_A (wM G A σ) sz) r0 (wM G A σ0)) := by
  unfold f_X12_read at h
  refine CI.intro (lv := [(0, .ref (A 0)), (1, .int a1)]) (by decide) (Nat.le_of_ble_eq_true rfl) rfl ?_
  intro p e s m args below meth c Q B S hret H locs ls hW hl
  have hx := S.1
  have hb := S.2.1
  refine lv_aload_n hx hb dX12_read_0 rfl (lv_at hl 0 rfl) ?_
  refine lv_iload_n hx hb dX12_read_1 rfl (lv_at hl 1 rfl) ?_
  obtain ⟨v2, h1, h⟩ := bd_o h
  refine back_i (rest := []) hW (run_V S hW (ct_X12_wanted l G A σ _ a1 h1) mi_X12_wanted lk_X12_79 (eM_0 G A σ) rfl rfl rfl hl (Nat.le_of_ble_eq_true rfl) dX12_read_2 ⟨Nat.le_of_ble_eq_true rfl, Nat.le_of_ble_eq_true rfl⟩ rfl rfl) (fun H locs hW => ?_)
  refine lv_istore_n (lv' := [(2, .int v2), (0, .ref (A 0)), (1, .int a1)]) hx hb dX12_read_5 rfl hl (by decide) rfl (fun ls hl => ?_)
  refine lv_iload_n hx hb dX12_read_6 rfl (lv_at hl 0 rfl) ?_
  refine bz_eq (tgt := 16) hx hb h dX12_read_7 (by decide) (fun _ h => ?_) (fun _ h => ?_)
  · refine lv_aload_n hx hb dX12_read_16 rfl (lv_at hl 1 rfl) ?_
    refine lv_iload_n hx hb dX12_read_17 rfl (lv_at hl 2 rfl) ?_
    refine pM_text S hW lk_X12_101 dX12_read_18 (fun σ3 H locs eσ3 hW => ?_)
    have h := lt_at eσ3 h
    refine lv_aload_n hx hb dX12_read_21 rfl (lv_at hl 1 rfl) ?_
    refine lv_iconst (v := (-1)) hx hb dX12_read_22 (by decide) ?_
    refine pM_fault S hW lk_X12_32 dX12_read_23 (fun σ4 H locs eσ4 hW => ?_)
    have h := lt_at eσ4 h
    refine lv_aload_n hx hb dX12_read_26 rfl (lv_at hl 1 rfl) ?_
    refine lv_iconst (v := 0) hx hb dX12_read_27 (by decide) ?_
    obtain ⟨v7, σ6, h5, h⟩ := bd2_o h
    refine back_i (rest := []) hW (run_V S hW (ct_X12_goesThrough l n G A σ4 _ 0 h5) mi_X12_goesThrough lk_X12_157 (eM_0 G A σ4) rfl rfl rfl hl (Nat.le_of_ble_eq_true rfl) dX12_read_28 ⟨Nat.le_of_ble_eq_true rfl, Nat.le_of_ble_eq_true rfl⟩ rfl rfl) (fun H locs hW => ?_)
    refine lv_pop hx hb dX12_read_31 rfl ?_
    refine lv_aload_n hx hb dX12_read_32 rfl (lv_at hl 1 rfl) ?_
    refine gM_isWrong S hW lk_X12_104 dX12_read_33 ?_
    refine bz_eq (tgt := 46) hx hb h dX12_read_36 (by decide) (fun _ h => ?_) (fun _ h => ?_)
    · refine lv_aload_n hx hb dX12_read_46 rfl (lv_at hl 1 rfl) ?_
      refine lv_iconst (v := 1) hx hb dX12_read_47 (by decide) ?_
      obtain ⟨v10, σ9, h8, h⟩ := bd2_o h
      refine back_i (rest := []) hW (run_V S hW (ct_X12_goesThrough l n G A σ6 _ 1 h8) mi_X12_goesThrough lk_X12_157 (eM_0 G A σ6) rfl rfl rfl hl (Nat.le_of_ble_eq_true rfl) dX12_read_48 ⟨Nat.le_of_ble_eq_true rfl, Nat.le_of_ble_eq_true rfl⟩ rfl rfl) (fun H locs hW => ?_)
      exact ret_is (wf := wM G A) hret h rfl hW dX12_read_51
    · refine lv_aload_n hx hb dX12_read_39 rfl (lv_at hl 1 rfl) ?_
      refine lv_bipush (v := (-6)) hx hb dX12_read_40 (by decide) ?_
      obtain ⟨v13, σ12, h11, h⟩ := bd2_o h
      refine back_i (rest := []) hW (run_V S hW (ct_X12_refused l G A σ6 _ (-6) h11) mi_X12_refused lk_X12_75 (eM_0 G A σ6) rfl rfl rfl hl (Nat.le_of_ble_eq_true rfl) dX12_read_42 ⟨Nat.le_of_ble_eq_true rfl, Nat.le_of_ble_eq_true rfl⟩ rfl rfl) (fun H locs hW => ?_)
      exact ret_is (wf := wM G A) hret h rfl hW dX12_read_45
  · refine lv_aload_n hx hb dX12_read_10 rfl (lv_at hl 1 rfl) ?_
    refine lv_iload_n hx hb dX12_read_11 rfl (lv_at hl 0 rfl) ?_
    obtain ⟨v16, σ15, h14, h⟩ := bd2_o h
    refine back_i (rest := []) hW (run_V S hW (ct_X12_refused l G A σ _ v2 h14) mi_X12_refused lk_X12_75 (eM_0 G A σ) rfl rfl rfl hl (Nat.le_of_ble_eq_true rfl) dX12_read_12 ⟨Nat.le_of_ble_eq_true rfl, Nat.le_of_ble_eq_true rfl⟩ rfl rfl) (fun H locs hW => ?_)
    exact ret_is (wf := wM G A) hret h rfl hW dX12_read_15
def rmX12_fault : Room := { frames := 0, cells := 0, slots := 0, locals := 0 }
def f_X12_fault (σ : SC) : Int32 := (gi σ 5)
theorem mi_X12_fault : MI yX12_fault cX12_fault 1 (some .int) 0 := ⟨im_X12_fault, se_X12_fault, in_X12, co_X12_fault, by decide, by decide, by decide +kernel⟩
set_option maxRecDepth 100000 in
set_option maxHeartbeats 4000000 in
theorem ct_X12_fault (l : Launch) (G : EN) (A : Nat → Nat) (σ : SC) (sz : Nat) {r0 : Int32} (h : f_X12_fault σ = r0) : CT l yX12_fault cX12_fault 1 (some .int) rmX12_fault G sz [.ref (A 0)] (wM G A σ) (QI G (va_A (wM G A σ) sz) r0 (wM G A σ)) := by
  unfold f_X12_fault at h
  refine CI.intro (lv := [(0, .ref (A 0))]) (by decide) (Nat.le_of_ble_eq_true rfl) rfl ?_
  intro p e s m args below meth c Q B S hret H locs ls hW hl
  have hx := S.1
  have hb := S.2.1
  refine lv_aload_n hx hb dX12_fault_0 rfl (lv_at hl 0 rfl) ?_
  refine gM_fault S hW lk_X12_32 dX12_fault_1 ?_
  exact hret H locs _ ls _ h rfl hW dX12_fault_4
def rmX12_put : Room := { frames := 2, cells := 0, slots := 0, locals := 42 }
def f_X12_put (σ : SC) (a1 : Int32) (a2 : Int32) : Option (Int32 × SC) := if (f_X12_in a1 0 2) = 0 then bd2 (f_X12_refused σ (-5)) (fun v8 σ7 => some (v8, σ7)) else if (f_X12_isSet a2) = 0 then bd2 (f_X12_refused σ (-6)) (fun v5 σ4 => some (v5, σ4)) else ld (ga σ 0) 173 (168 + a1) (fun v1 => ck 173 (168 + a1) (lt (sa σ 0 (upd (ga σ 0) (168 + a1).toNatClampNeg a2)) (fun σ2 => some (v1, σ2))))
theorem mi_X12_put : MI yX12_put cX12_put 4 (some .int) 2 := ⟨im_X12_put, se_X12_put, in_X12, co_X12_put, by decide, by decide, by decide +kernel⟩
set_option maxRecDepth 100000 in
set_option maxHeartbeats 4000000 in
theorem ct_X12_put (l : Launch) (G : EN) (A : Nat → Nat) (σ : SC) (sz : Nat) (a1 : Int32) (a2 : Int32) {r0 : Int32} {σ0 : SC} (h : f_X12_put σ a1 a2 = some (r0, σ0)) : CT l yX12_put cX12_put 4 (some .int) rmX12_put G sz [.ref (A 0), .int a1, .int a2] (wM G A σ) (QI G (va_A (wM G A σ) sz) r0 (wM G A σ0)) := by
  unfold f_X12_put at h
  refine CI.intro (lv := [(0, .ref (A 0)), (1, .int a1), (2, .int a2)]) (by decide) (Nat.le_of_ble_eq_true rfl) rfl ?_
  intro p e s m args below meth c Q B S hret H locs ls hW hl
  have hx := S.1
  have hb := S.2.1
  refine lv_iload_n hx hb dX12_put_0 rfl (lv_at hl 1 rfl) ?_
  refine lv_iconst (v := 0) hx hb dX12_put_1 (by decide) ?_
  refine lv_iconst (v := 2) hx hb dX12_put_2 (by decide) ?_
  refine back_i (rest := []) hW (run_S S hW (ct_X12_in l G A σ _ a1 0 2 rfl) ms_X12_in lk_X12_67 rfl rfl hl (Nat.le_of_ble_eq_true rfl) dX12_put_3 ⟨Nat.le_of_ble_eq_true rfl, Nat.le_of_ble_eq_true rfl⟩ rfl rfl) (fun H locs hW => ?_)
  refine bz_ne (tgt := 16) hx hb h dX12_put_6 (by decide) (fun _ h => ?_) (fun _ h => ?_)
  · refine lv_aload_n hx hb dX12_put_9 rfl (lv_at hl 0 rfl) ?_
    refine lv_bipush (v := (-5)) hx hb dX12_put_10 (by decide) ?_
    obtain ⟨v8, σ7, h6, h⟩ := bd2_o h
    refine back_i (rest := []) hW (run_V S hW (ct_X12_refused l G A σ _ (-5) h6) mi_X12_refused lk_X12_75 (eM_0 G A σ) rfl rfl rfl hl (Nat.le_of_ble_eq_true rfl) dX12_put_12 ⟨Nat.le_of_ble_eq_true rfl, Nat.le_of_ble_eq_true rfl⟩ rfl rfl) (fun H locs hW => ?_)
    exact ret_is (wf := wM G A) hret h rfl hW dX12_put_15
  · refine lv_iload_n hx hb dX12_put_16 rfl (lv_at hl 2 rfl) ?_
    refine back_i (rest := []) hW (run_S S hW (ct_X12_isSet l G A σ _ a2 rfl) ms_X12_isSet lk_X12_91 rfl rfl hl (Nat.le_of_ble_eq_true rfl) dX12_put_17 ⟨Nat.le_of_ble_eq_true rfl, Nat.le_of_ble_eq_true rfl⟩ rfl rfl) (fun H locs hW => ?_)
    refine bz_ne (tgt := 30) hx hb h dX12_put_20 (by decide) (fun _ h => ?_) (fun _ h => ?_)
    · refine lv_aload_n hx hb dX12_put_23 rfl (lv_at hl 0 rfl) ?_
      refine lv_bipush (v := (-6)) hx hb dX12_put_24 (by decide) ?_
      obtain ⟨v5, σ4, h3, h⟩ := bd2_o h
      refine back_i (rest := []) hW (run_V S hW (ct_X12_refused l G A σ _ (-6) h3) mi_X12_refused lk_X12_75 (eM_0 G A σ) rfl rfl rfl hl (Nat.le_of_ble_eq_true rfl) dX12_put_26 ⟨Nat.le_of_ble_eq_true rfl, Nat.le_of_ble_eq_true rfl⟩ rfl rfl) (fun H locs hW => ?_)
      exact ret_is (wf := wM G A) hret h rfl hW dX12_put_29
    · refine lv_aload_n hx hb dX12_put_30 rfl (lv_at hl 0 rfl) ?_
      refine gM_s S hW lk_X12_7 dX12_put_31 ?_
      refine lv_sipush (v := 168) hx hb dX12_put_34 (by decide) ?_
      refine lv_iload_n hx hb dX12_put_37 rfl (lv_at hl 1 rfl) ?_
      refine lv_iadd hx hb dX12_put_38 ?_
      refine aM_1 S hW h dX12_put_39 (fun v1 _ h => ?_)
      refine lv_istore_n (lv' := [(3, .int v1), (0, .ref (A 0)), (1, .int a1), (2, .int a2)]) hx hb dX12_put_40 rfl hl (by decide) rfl (fun ls hl => ?_)
      refine lv_aload_n hx hb dX12_put_41 rfl (lv_at hl 1 rfl) ?_
      refine gM_s S hW lk_X12_7 dX12_put_42 ?_
      refine lv_sipush (v := 168) hx hb dX12_put_45 (by decide) ?_
      refine lv_iload_n hx hb dX12_put_48 rfl (lv_at hl 2 rfl) ?_
      refine lv_iadd hx hb dX12_put_49 ?_
      refine lv_iload_n hx hb dX12_put_50 rfl (lv_at hl 3 rfl) ?_
      refine sM_1 S hW h dX12_put_51 (fun σ2 H locs eσ2 _ h hW => ?_)
      have h := lt_at eσ2 h
      refine lv_iload_n hx hb dX12_put_52 rfl (lv_at hl 0 rfl) ?_
      exact ret_is (wf := wM G A) hret h rfl hW dX12_put_53
def rmX12_mayBe : Room := { frames := 1, cells := 0, slots := 0, locals := 21 }
def f_X12_mayBe (σ : SC) (a1 : Int32) (a2 : Int32) : Option Int32 := ld (ga σ 0) 173 (0 + a2) (fun v1 => some (f_X12_has a1 v1))
theorem mi_X12_mayBe : MI yX12_mayBe cX12_mayBe 3 (some .boolean) 2 := ⟨im_X12_mayBe, se_X12_mayBe, in_X12, co_X12_mayBe, by decide, by decide, by decide +kernel⟩
set_option maxRecDepth 100000 in
set_option maxHeartbeats 4000000 in
theorem ct_X12_mayBe (l : Launch) (G : EN) (A : Nat → Nat) (σ : SC) (sz : Nat) (a1 : Int32) (a2 : Int32) {r0 : Int32} (h : f_X12_mayBe σ a1 a2 = some r0) : CT l yX12_mayBe cX12_mayBe 3 (some .boolean) rmX12_mayBe G sz [.ref (A 0), .int a1, .int a2] (wM G A σ) (QI G (va_A (wM G A σ) sz) r0 (wM G A σ)) := by
  unfold f_X12_mayBe at h
  refine CI.intro (lv := [(0, .ref (A 0)), (1, .int a1), (2, .int a2)]) (by decide) (Nat.le_of_ble_eq_true rfl) rfl ?_
  intro p e s m args below meth c Q B S hret H locs ls hW hl
  have hx := S.1
  have hb := S.2.1
  refine lv_iload_n hx hb dX12_mayBe_0 rfl (lv_at hl 1 rfl) ?_
  refine lv_aload_n hx hb dX12_mayBe_1 rfl (lv_at hl 0 rfl) ?_
  refine gM_s S hW lk_X12_7 dX12_mayBe_2 ?_
  refine lv_iconst (v := 0) hx hb dX12_mayBe_5 (by decide) ?_
  refine lv_iload_n hx hb dX12_mayBe_6 rfl (lv_at hl 2 rfl) ?_
  refine lv_iadd hx hb dX12_mayBe_7 ?_
  refine aM_1 S hW h dX12_mayBe_8 (fun v1 _ h => ?_)
  refine back_i (rest := []) hW (run_S S hW (ct_X12_has l G A σ _ a1 v1 rfl) ms_X12_has lk_X12_161 rfl rfl hl (Nat.le_of_ble_eq_true rfl) dX12_mayBe_9 ⟨Nat.le_of_ble_eq_true rfl, Nat.le_of_ble_eq_true rfl⟩ rfl rfl) (fun H locs hW => ?_)
  exact hret H locs _ ls _ (Option.some.inj h) (nar_z (z_X12_has a1 v1)) hW dX12_mayBe_12
def rmX12_behindIt : Room := { frames := 0, cells := 0, slots := 0, locals := 0 }
def f_X12_behindIt (σ : SC) (a1 : Int32) (a2 : Int32) : Option Int32 := ld (ga σ 0) 173 (48 + a2) (fun v1 => ld (ga σ 0) 173 (24 + a2) (fun v2 => some ((a1 &&& (v1 ^^^ (-1))) ||| v2)))
theorem mi_X12_behindIt : MI yX12_behindIt cX12_behindIt 3 (some .int) 2 := ⟨im_X12_behindIt, se_X12_behindIt, in_X12, co_X12_behindIt, by decide, by decide, by decide +kernel⟩
set_option maxRecDepth 100000 in
set_option maxHeartbeats 4000000 in
theorem ct_X12_behindIt (l : Launch) (G : EN) (A : Nat → Nat) (σ : SC) (sz : Nat) (a1 : Int32) (a2 : Int32) {r0 : Int32} (h : f_X12_behindIt σ a1 a2 = some r0) : CT l yX12_behindIt cX12_behindIt 3 (some .int) rmX12_behindIt G sz [.ref (A 0), .int a1, .int a2] (wM G A σ) (QI G (va_A (wM G A σ) sz) r0 (wM G A σ)) := by
  unfold f_X12_behindIt at h
  refine CI.intro (lv := [(0, .ref (A 0)), (1, .int a1), (2, .int a2)]) (by decide) (Nat.le_of_ble_eq_true rfl) rfl ?_
  intro p e s m args below meth c Q B S hret H locs ls hW hl
  have hx := S.1
  have hb := S.2.1
  refine lv_iload_n hx hb dX12_behindIt_0 rfl (lv_at hl 1 rfl) ?_
  refine lv_aload_n hx hb dX12_behindIt_1 rfl (lv_at hl 0 rfl) ?_
  refine gM_s S hW lk_X12_7 dX12_behindIt_2 ?_
  refine lv_bipush (v := 48) hx hb dX12_behindIt_5 (by decide) ?_
  refine lv_iload_n hx hb dX12_behindIt_7 rfl (lv_at hl 2 rfl) ?_
  refine lv_iadd hx hb dX12_behindIt_8 ?_
  refine aM_1 S hW h dX12_behindIt_9 (fun v1 _ h => ?_)
  refine lv_iconst (v := (-1)) hx hb dX12_behindIt_10 (by decide) ?_
  refine lv_ixor hx hb dX12_behindIt_11 ?_
  refine lv_iand hx hb dX12_behindIt_12 ?_
  refine lv_aload_n hx hb dX12_behindIt_13 rfl (lv_at hl 0 rfl) ?_
  refine gM_s S hW lk_X12_7 dX12_behindIt_14 ?_
  refine lv_bipush (v := 24) hx hb dX12_behindIt_17 (by decide) ?_
  refine lv_iload_n hx hb dX12_behindIt_19 rfl (lv_at hl 2 rfl) ?_
  refine lv_iadd hx hb dX12_behindIt_20 ?_
  refine aM_1 S hW h dX12_behindIt_21 (fun v2 _ h => ?_)
  refine lv_ior hx hb dX12_behindIt_22 ?_
  exact hret H locs _ ls _ (Option.some.inj h) rfl hW dX12_behindIt_23
def rmX12_may : Room := { frames := 2, cells := 0, slots := 0, locals := 43 }
def LX12_may_18 (σ : SC) (y1 : Int32) (K : Int32 → Option (Int32 × SC)) : Nat → Int32 → Int32 → Option (Int32 × SC)
  | 0, _, _ => none
  | k + 1, y2, y3 => ld (ga σ 0) 173 172 (fun v1 => if v1 ≤ y3 then K y2 else bd (f_X12_mayBe σ y1 y3) (fun v3 => if v3 = 0 then lt (y2 ||| 0) (fun v4 => lt (y3 + 1) (fun v5 => LX12_may_18 σ y1 K k v4 v5)) else lt (y2 ||| (1 <<< (y3 &&& 31))) (fun v6 => lt (y3 + 1) (fun v7 => LX12_may_18 σ y1 K k v6 v7))))
def f_X12_may (n : Nat) (σ : SC) (a1 : Int32) : Option (Int32 × SC) := if (f_X12_isSet a1) = 0 then bd2 (f_X12_refused σ (-6)) (fun v11 σ10 => some (v11, σ10)) else LX12_may_18 σ a1 (fun w8 => some (w8, σ)) n 0 0
theorem mi_X12_may : MI yX12_may cX12_may 4 (some .int) 1 := ⟨im_X12_may, se_X12_may, in_X12, co_X12_may, by decide, by decide, by decide +kernel⟩
set_option maxRecDepth 100000 in
set_option maxHeartbeats 4000000 in
theorem ct_X12_may (l : Launch) (n : Nat) (G : EN) (A : Nat → Nat) (σ : SC) (sz : Nat) (a1 : Int32) {r0 : Int32} {σ0 : SC} (h : f_X12_may n σ a1 = some (r0, σ0)) : CT l yX12_may cX12_may 4 (some .int) rmX12_may G sz [.ref (A 0), .int a1] (wM G A σ) (QI G (va_A (wM G A σ) sz) r0 (wM G A σ0)) := by
  unfold f_X12_may at h
  refine CI.intro (lv := [(0, .ref (A 0)), (1, .int a1)]) (by decide) (Nat.le_of_ble_eq_true rfl) rfl ?_
  intro p e s m args below meth c Q B S hret H locs ls hW hl
  have hx := S.1
  have hb := S.2.1
  refine lv_iload_n hx hb dX12_may_0 rfl (lv_at hl 1 rfl) ?_
  refine back_i (rest := []) hW (run_S S hW (ct_X12_isSet l G A σ _ a1 rfl) ms_X12_isSet lk_X12_91 rfl rfl hl (Nat.le_of_ble_eq_true rfl) dX12_may_1 ⟨Nat.le_of_ble_eq_true rfl, Nat.le_of_ble_eq_true rfl⟩ rfl rfl) (fun H locs hW => ?_)
  refine bz_ne (tgt := 14) hx hb h dX12_may_4 (by decide) (fun _ h => ?_) (fun _ h => ?_)
  · refine lv_aload_n hx hb dX12_may_7 rfl (lv_at hl 0 rfl) ?_
    refine lv_bipush (v := (-6)) hx hb dX12_may_8 (by decide) ?_
    obtain ⟨v11, σ10, h9, h⟩ := bd2_o h
    refine back_i (rest := []) hW (run_V S hW (ct_X12_refused l G A σ _ (-6) h9) mi_X12_refused lk_X12_75 (eM_0 G A σ) rfl rfl rfl hl (Nat.le_of_ble_eq_true rfl) dX12_may_10 ⟨Nat.le_of_ble_eq_true rfl, Nat.le_of_ble_eq_true rfl⟩ rfl rfl) (fun H locs hW => ?_)
    exact ret_is (wf := wM G A) hret h rfl hW dX12_may_13
  · refine lv_iconst (v := 0) hx hb dX12_may_14 (by decide) ?_
    refine lv_istore_n (lv' := [(2, .int 0), (0, .ref (A 0)), (1, .int a1)]) hx hb dX12_may_15 rfl hl (by decide) rfl (fun ls hl => ?_)
    refine lv_iconst (v := 0) hx hb dX12_may_16 (by decide) ?_
    refine lv_istore_n (lv' := [(3, .int 0), (2, .int 0), (0, .ref (A 0)), (1, .int a1)]) hx hb dX12_may_17 rfl hl (by decide) rfl (fun ls hl => ?_)
    have hL18 : ∀ (y1 : Int32) (σ : SC) (K : Int32 → Option (Int32 × SC)), (∀ (z2 : Int32) (H : Heap) (locs : List Loc) (ls : Array Slot), WS G B s (wM G A σ) H locs → lv_has ls 4 [(2, .int z2)] → K z2 = some (r0, σ0) → W p l e rmX12_may s m args below meth c H locs 0 0 Q (F0 m 55 ls [])) → ∀ (k : Nat)  (y2 : Int32) (y3 : Int32)  (H : Heap) (locs : List Loc) (ls : Array Slot), WS G B s (wM G A σ) H locs → lv_has ls 4 [(0, .ref (A 0)), (1, .int y1), (2, .int y2), (3, .int y3)] → LX12_may_18 σ y1 K k y2 y3 = some (r0, σ0) → W p l e rmX12_may s m args below meth c H locs 0 0 Q (F0 m 18 ls []) := by
      intro y1 σ K hK k
      induction k with
      | zero => intro y2 y3 H locs ls hW hl h; rw [LX12_may_18] at h; cases h
      | succ k ih =>
        intro y2 y3 H locs ls hW hl h
        rw [LX12_may_18] at h
        refine lv_iload_n hx hb dX12_may_18 rfl (lv_at hl 3 rfl) ?_
        refine lv_aload_n hx hb dX12_may_19 rfl (lv_at hl 0 rfl) ?_
        refine gM_s S hW lk_X12_7 dX12_may_20 ?_
        refine lv_sipush (v := 172) hx hb dX12_may_23 (by decide) ?_
        refine aM_1 S hW h dX12_may_26 (fun v1 _ h => ?_)
        refine bc_ge (tgt := 55) hx hb h dX12_may_27 (by decide) (fun _ h => ?_) (fun _ h => ?_)
        · exact hK y2 _ _ _ hW (lv_sub hl [2] rfl) h
        · refine lv_iload_n hx hb dX12_may_30 rfl (lv_at hl 2 rfl) ?_
          refine lv_aload_n hx hb dX12_may_31 rfl (lv_at hl 0 rfl) ?_
          refine lv_iload_n hx hb dX12_may_32 rfl (lv_at hl 1 rfl) ?_
          refine lv_iload_n hx hb dX12_may_33 rfl (lv_at hl 3 rfl) ?_
          obtain ⟨v3, h2, h⟩ := bd_o h
          refine back_i (rest := [.int y2]) hW (run_V S hW (ct_X12_mayBe l G A σ _ y1 y3 h2) mi_X12_mayBe lk_X12_165 (eM_0 G A σ) rfl rfl rfl hl (Nat.le_of_ble_eq_true rfl) dX12_may_34 ⟨Nat.le_of_ble_eq_true rfl, Nat.le_of_ble_eq_true rfl⟩ rfl rfl) (fun H locs hW => ?_)
          refine bz_eq (tgt := 46) hx hb h dX12_may_37 (by decide) (fun _ h => ?_) (fun _ h => ?_)
          · refine lv_iconst (v := 0) hx hb dX12_may_46 (by decide) ?_
            refine lv_ior hx hb dX12_may_47 ?_
            refine nm_i h (fun v4 h => ?_)
            refine lv_istore_n (lv' := [(2, .int v4), (0, .ref (A 0)), (1, .int y1), (3, .int y3)]) hx hb dX12_may_48 rfl hl (by decide) rfl (fun ls hl => ?_)
            refine w_iinc (lv' := [(2, .int v4), (0, .ref (A 0)), (1, .int y1)]) hx hb dX12_may_49 hl (k := 3) rfl (by decide) (by decide) rfl h (fun v5 ls hl h => ?_)
            refine lv_goto (tgt := 18) hx hb dX12_may_52 (by decide) ?_
            exact ih v4 v5 _ _ _ hW (lv_sub hl [2, 3, 1, 0] rfl) h
          · refine lv_iconst (v := 1) hx hb dX12_may_40 (by decide) ?_
            refine lv_iload_n hx hb dX12_may_41 rfl (lv_at hl 3 rfl) ?_
            refine lv_ishl hx hb dX12_may_42 ?_
            refine lv_goto (tgt := 47) hx hb dX12_may_43 (by decide) ?_
            refine lv_ior hx hb dX12_may_47 ?_
            refine nm_i h (fun v6 h => ?_)
            refine lv_istore_n (lv' := [(2, .int v6), (0, .ref (A 0)), (1, .int y1), (3, .int y3)]) hx hb dX12_may_48 rfl hl (by decide) rfl (fun ls hl => ?_)
            refine w_iinc (lv' := [(2, .int v6), (0, .ref (A 0)), (1, .int y1)]) hx hb dX12_may_49 hl (k := 3) rfl (by decide) (by decide) rfl h (fun v7 ls hl h => ?_)
            refine lv_goto (tgt := 18) hx hb dX12_may_52 (by decide) ?_
            exact ih v6 v7 _ _ _ hW (lv_sub hl [2, 3, 1, 0] rfl) h
    refine hL18 a1 σ _ (fun w8 H locs ls hW hl h => ?_) n 0 0 _ _ _ hW (lv_sub hl [2, 3, 1, 0] rfl) h
    refine lv_iload_n hx hb dX12_may_55 rfl (lv_at hl 0 rfl) ?_
    exact ret_is (wf := wM G A) hret h rfl hW dX12_may_56
def rmX12_then : Room := { frames := 2, cells := 0, slots := 0, locals := 43 }
def f_X12_then (σ : SC) (a1 : Int32) (a2 : Int32) : Option (Int32 × SC) := bd (f_X12_isAction σ a2) (fun v2 => if v2 = 0 then bd2 (f_X12_refused σ (-1)) (fun v15 σ14 => some (v15, σ14)) else if (f_X12_isSet a1) = 0 then bd2 (f_X12_refused σ (-6)) (fun v5 σ4 => some (v5, σ4)) else bd (f_X12_mayBe σ a1 a2) (fun v7 => if v7 = 0 then bd2 (f_X12_refused σ (-6)) (fun v10 σ9 => some (v10, σ9)) else bd (f_X12_behindIt σ a1 a2) (fun v12 => some (v12, σ))))
theorem mi_X12_then : MI yX12_then cX12_then 3 (some .int) 2 := ⟨im_X12_then, se_X12_then, in_X12, co_X12_then, by decide, by decide, by decide +kernel⟩
set_option maxRecDepth 100000 in
set_option maxHeartbeats 4000000 in
theorem ct_X12_then (l : Launch) (G : EN) (A : Nat → Nat) (σ : SC) (sz : Nat) (a1 : Int32) (a2 : Int32) {r0 : Int32} {σ0 : SC} (h : f_X12_then σ a1 a2 = some (r0, σ0)) : CT l yX12_then cX12_then 3 (some .int) rmX12_then G sz [.ref (A 0), .int a1, .int a2] (wM G A σ) (QI G (va_A (wM G A σ) sz) r0 (wM G A σ0)) := by
  unfold f_X12_then at h
  refine CI.intro (lv := [(0, .ref (A 0)), (1, .int a1), (2, .int a2)]) (by decide) (Nat.le_of_ble_eq_true rfl) rfl ?_
  intro p e s m args below meth c Q B S hret H locs ls hW hl
  have hx := S.1
  have hb := S.2.1
  refine lv_aload_n hx hb dX12_then_0 rfl (lv_at hl 0 rfl) ?_
  refine lv_iload_n hx hb dX12_then_1 rfl (lv_at hl 2 rfl) ?_
  obtain ⟨v2, h1, h⟩ := bd_o h
  refine back_i (rest := []) hW (run_V S hW (ct_X12_isAction l G A σ _ a2 h1) mi_X12_isAction lk_X12_85 (eM_0 G A σ) rfl rfl rfl hl (Nat.le_of_ble_eq_true rfl) dX12_then_2 ⟨Nat.le_of_ble_eq_true rfl, Nat.le_of_ble_eq_true rfl⟩ rfl rfl) (fun H locs hW => ?_)
  refine bz_ne (tgt := 14) hx hb h dX12_then_5 (by decide) (fun _ h => ?_) (fun _ h => ?_)
  · refine lv_aload_n hx hb dX12_then_8 rfl (lv_at hl 0 rfl) ?_
    refine lv_iconst (v := (-1)) hx hb dX12_then_9 (by decide) ?_
    obtain ⟨v15, σ14, h13, h⟩ := bd2_o h
    refine back_i (rest := []) hW (run_V S hW (ct_X12_refused l G A σ _ (-1) h13) mi_X12_refused lk_X12_75 (eM_0 G A σ) rfl rfl rfl hl (Nat.le_of_ble_eq_true rfl) dX12_then_10 ⟨Nat.le_of_ble_eq_true rfl, Nat.le_of_ble_eq_true rfl⟩ rfl rfl) (fun H locs hW => ?_)
    exact ret_is (wf := wM G A) hret h rfl hW dX12_then_13
  · refine lv_iload_n hx hb dX12_then_14 rfl (lv_at hl 1 rfl) ?_
    refine back_i (rest := []) hW (run_S S hW (ct_X12_isSet l G A σ _ a1 rfl) ms_X12_isSet lk_X12_91 rfl rfl hl (Nat.le_of_ble_eq_true rfl) dX12_then_15 ⟨Nat.le_of_ble_eq_true rfl, Nat.le_of_ble_eq_true rfl⟩ rfl rfl) (fun H locs hW => ?_)
    refine bz_eq (tgt := 39) hx hb h dX12_then_18 (by decide) (fun _ h => ?_) (fun _ h => ?_)
    · refine lv_aload_n hx hb dX12_then_39 rfl (lv_at hl 0 rfl) ?_
      refine lv_bipush (v := (-6)) hx hb dX12_then_40 (by decide) ?_
      obtain ⟨v5, σ4, h3, h⟩ := bd2_o h
      refine back_i (rest := []) hW (run_V S hW (ct_X12_refused l G A σ _ (-6) h3) mi_X12_refused lk_X12_75 (eM_0 G A σ) rfl rfl rfl hl (Nat.le_of_ble_eq_true rfl) dX12_then_42 ⟨Nat.le_of_ble_eq_true rfl, Nat.le_of_ble_eq_true rfl⟩ rfl rfl) (fun H locs hW => ?_)
      exact ret_is (wf := wM G A) hret h rfl hW dX12_then_45
    · refine lv_aload_n hx hb dX12_then_21 rfl (lv_at hl 0 rfl) ?_
      refine lv_iload_n hx hb dX12_then_22 rfl (lv_at hl 1 rfl) ?_
      refine lv_iload_n hx hb dX12_then_23 rfl (lv_at hl 2 rfl) ?_
      obtain ⟨v7, h6, h⟩ := bd_o h
      refine back_i (rest := []) hW (run_V S hW (ct_X12_mayBe l G A σ _ a1 a2 h6) mi_X12_mayBe lk_X12_165 (eM_0 G A σ) rfl rfl rfl hl (Nat.le_of_ble_eq_true rfl) dX12_then_24 ⟨Nat.le_of_ble_eq_true rfl, Nat.le_of_ble_eq_true rfl⟩ rfl rfl) (fun H locs hW => ?_)
      refine bz_eq (tgt := 39) hx hb h dX12_then_27 (by decide) (fun _ h => ?_) (fun _ h => ?_)
      · refine lv_aload_n hx hb dX12_then_39 rfl (lv_at hl 0 rfl) ?_
        refine lv_bipush (v := (-6)) hx hb dX12_then_40 (by decide) ?_
        obtain ⟨v10, σ9, h8, h⟩ := bd2_o h
        refine back_i (rest := []) hW (run_V S hW (ct_X12_refused l G A σ _ (-6) h8) mi_X12_refused lk_X12_75 (eM_0 G A σ) rfl rfl rfl hl (Nat.le_of_ble_eq_true rfl) dX12_then_42 ⟨Nat.le_of_ble_eq_true rfl, Nat.le_of_ble_eq_true rfl⟩ rfl rfl) (fun H locs hW => ?_)
        exact ret_is (wf := wM G A) hret h rfl hW dX12_then_45
      · refine lv_aload_n hx hb dX12_then_30 rfl (lv_at hl 0 rfl) ?_
        refine lv_iload_n hx hb dX12_then_31 rfl (lv_at hl 1 rfl) ?_
        refine lv_iload_n hx hb dX12_then_32 rfl (lv_at hl 2 rfl) ?_
        obtain ⟨v12, h11, h⟩ := bd_o h
        refine back_i (rest := []) hW (run_V S hW (ct_X12_behindIt l G A σ _ a1 a2 h11) mi_X12_behindIt lk_X12_168 (eM_0 G A σ) rfl rfl rfl hl (Nat.le_of_ble_eq_true rfl) dX12_then_33 ⟨Nat.le_of_ble_eq_true rfl, Nat.le_of_ble_eq_true rfl⟩ rfl rfl) (fun H locs hW => ?_)
        refine lv_goto (tgt := 45) hx hb dX12_then_36 (by decide) ?_
        exact ret_is (wf := wM G A) hret h rfl hW dX12_then_45
def rmX12_nextLevel : Room := { frames := 2, cells := 0, slots := 0, locals := 43 }
def LX12_nextLevel_5 (σ : SC) (y1 : Int32) (y2 : Int32) (K : Int32 → Option Int32) : Nat → Int32 → Int32 → Option Int32
  | 0, _, _ => none
  | k + 1, y3, y4 => ld (ga σ 0) 173 172 (fun v1 => if v1 ≤ y4 then K y3 else bd (f_X12_mayBe σ y1 y4) (fun v3 => if v3 = 0 then lt (y3 ||| 0) (fun v4 => lt (y4 + 1) (fun v5 => LX12_nextLevel_5 σ y1 y2 K k v4 v5)) else ld (ga σ 0) 173 (24 + y4) (fun v6 => lt (y3 ||| (v6 &&& (y2 ^^^ (-1)))) (fun v7 => lt (y4 + 1) (fun v8 => LX12_nextLevel_5 σ y1 y2 K k v7 v8)))))
def f_X12_nextLevel (n : Nat) (σ : SC) (a1 : Int32) (a2 : Int32) : Option Int32 := LX12_nextLevel_5 σ a1 a2 (fun w9 => some w9) n a1 0
theorem mi_X12_nextLevel : MI yX12_nextLevel cX12_nextLevel 5 (some .int) 2 := ⟨im_X12_nextLevel, se_X12_nextLevel, in_X12, co_X12_nextLevel, by decide, by decide, by decide +kernel⟩
set_option maxRecDepth 100000 in
set_option maxHeartbeats 4000000 in
theorem ct_X12_nextLevel (l : Launch) (n : Nat) (G : EN) (A : Nat → Nat) (σ : SC) (sz : Nat) (a1 : Int32) (a2 : Int32) {r0 : Int32} (h : f_X12_nextLevel n σ a1 a2 = some r0) : CT l yX12_nextLevel cX12_nextLevel 5 (some .int) rmX12_nextLevel G sz [.ref (A 0), .int a1, .int a2] (wM G A σ) (QI G (va_A (wM G A σ) sz) r0 (wM G A σ)) := by
  unfold f_X12_nextLevel at h
  refine CI.intro (lv := [(0, .ref (A 0)), (1, .int a1), (2, .int a2)]) (by decide) (Nat.le_of_ble_eq_true rfl) rfl ?_
  intro p e s m args below meth c Q B S hret H locs ls hW hl
  have hx := S.1
  have hb := S.2.1
  refine lv_iload_n hx hb dX12_nextLevel_0 rfl (lv_at hl 1 rfl) ?_
  refine lv_istore_n (lv' := [(3, .int a1), (0, .ref (A 0)), (1, .int a1), (2, .int a2)]) hx hb dX12_nextLevel_1 rfl hl (by decide) rfl (fun ls hl => ?_)
  refine lv_iconst (v := 0) hx hb dX12_nextLevel_2 (by decide) ?_
  refine lv_istore (lv' := [(4, .int 0), (3, .int a1), (0, .ref (A 0)), (1, .int a1), (2, .int a2)]) hx hb dX12_nextLevel_3 hl (by decide) rfl (fun ls hl => ?_)
  have hL5 : ∀ (y1 : Int32) (y2 : Int32) (K : Int32 → Option Int32), (∀ (z3 : Int32) (H : Heap) (locs : List Loc) (ls : Array Slot), WS G B s (wM G A σ) H locs → lv_has ls 5 [(3, .int z3)] → K z3 = some r0 → W p l e rmX12_nextLevel s m args below meth c H locs 0 0 Q (F0 m 55 ls [])) → ∀ (k : Nat)  (y3 : Int32) (y4 : Int32)  (H : Heap) (locs : List Loc) (ls : Array Slot), WS G B s (wM G A σ) H locs → lv_has ls 5 [(0, .ref (A 0)), (1, .int y1), (2, .int y2), (3, .int y3), (4, .int y4)] → LX12_nextLevel_5 σ y1 y2 K k y3 y4 = some r0 → W p l e rmX12_nextLevel s m args below meth c H locs 0 0 Q (F0 m 5 ls []) := by
    intro y1 y2 K hK k
    induction k with
    | zero => intro y3 y4 H locs ls hW hl h; rw [LX12_nextLevel_5] at h; cases h
    | succ k ih =>
      intro y3 y4 H locs ls hW hl h
      rw [LX12_nextLevel_5] at h
      refine lv_iload hx hb dX12_nextLevel_5 (lv_at hl 4 rfl) ?_
      refine lv_aload_n hx hb dX12_nextLevel_7 rfl (lv_at hl 0 rfl) ?_
      refine gM_s S hW lk_X12_7 dX12_nextLevel_8 ?_
      refine lv_sipush (v := 172) hx hb dX12_nextLevel_11 (by decide) ?_
      refine aM_1 S hW h dX12_nextLevel_14 (fun v1 _ h => ?_)
      refine bc_ge (tgt := 55) hx hb h dX12_nextLevel_15 (by decide) (fun _ h => ?_) (fun _ h => ?_)
      · exact hK y3 _ _ _ hW (lv_sub hl [3] rfl) h
      · refine lv_iload_n hx hb dX12_nextLevel_18 rfl (lv_at hl 3 rfl) ?_
        refine lv_aload_n hx hb dX12_nextLevel_19 rfl (lv_at hl 0 rfl) ?_
        refine lv_iload_n hx hb dX12_nextLevel_20 rfl (lv_at hl 1 rfl) ?_
        refine lv_iload hx hb dX12_nextLevel_21 (lv_at hl 4 rfl) ?_
        obtain ⟨v3, h2, h⟩ := bd_o h
        refine back_i (rest := [.int y3]) hW (run_V S hW (ct_X12_mayBe l G A σ _ y1 y4 h2) mi_X12_mayBe lk_X12_165 (eM_0 G A σ) rfl rfl rfl hl (Nat.le_of_ble_eq_true rfl) dX12_nextLevel_23 ⟨Nat.le_of_ble_eq_true rfl, Nat.le_of_ble_eq_true rfl⟩ rfl rfl) (fun H locs hW => ?_)
        refine bz_eq (tgt := 46) hx hb h dX12_nextLevel_26 (by decide) (fun _ h => ?_) (fun _ h => ?_)
        · refine lv_iconst (v := 0) hx hb dX12_nextLevel_46 (by decide) ?_
          refine lv_ior hx hb dX12_nextLevel_47 ?_
          refine nm_i h (fun v4 h => ?_)
          refine lv_istore_n (lv' := [(3, .int v4), (0, .ref (A 0)), (1, .int y1), (2, .int y2), (4, .int y4)]) hx hb dX12_nextLevel_48 rfl hl (by decide) rfl (fun ls hl => ?_)
          refine w_iinc (lv' := [(3, .int v4), (0, .ref (A 0)), (1, .int y1), (2, .int y2)]) hx hb dX12_nextLevel_49 hl (k := 4) rfl (by decide) (by decide) rfl h (fun v5 ls hl h => ?_)
          refine lv_goto (tgt := 5) hx hb dX12_nextLevel_52 (by decide) ?_
          exact ih v4 v5 _ _ _ hW (lv_sub hl [2, 3, 4, 1, 0] rfl) h
        · refine lv_aload_n hx hb dX12_nextLevel_29 rfl (lv_at hl 0 rfl) ?_
          refine gM_s S hW lk_X12_7 dX12_nextLevel_30 ?_
          refine lv_bipush (v := 24) hx hb dX12_nextLevel_33 (by decide) ?_
          refine lv_iload hx hb dX12_nextLevel_35 (lv_at hl 4 rfl) ?_
          refine lv_iadd hx hb dX12_nextLevel_37 ?_
          refine aM_1 S hW h dX12_nextLevel_38 (fun v6 _ h => ?_)
          refine lv_iload_n hx hb dX12_nextLevel_39 rfl (lv_at hl 2 rfl) ?_
          refine lv_iconst (v := (-1)) hx hb dX12_nextLevel_40 (by decide) ?_
          refine lv_ixor hx hb dX12_nextLevel_41 ?_
          refine lv_iand hx hb dX12_nextLevel_42 ?_
          refine lv_goto (tgt := 47) hx hb dX12_nextLevel_43 (by decide) ?_
          refine lv_ior hx hb dX12_nextLevel_47 ?_
          refine nm_i h (fun v7 h => ?_)
          refine lv_istore_n (lv' := [(3, .int v7), (0, .ref (A 0)), (1, .int y1), (2, .int y2), (4, .int y4)]) hx hb dX12_nextLevel_48 rfl hl (by decide) rfl (fun ls hl => ?_)
          refine w_iinc (lv' := [(3, .int v7), (0, .ref (A 0)), (1, .int y1), (2, .int y2)]) hx hb dX12_nextLevel_49 hl (k := 4) rfl (by decide) (by decide) rfl h (fun v8 ls hl h => ?_)
          refine lv_goto (tgt := 5) hx hb dX12_nextLevel_52 (by decide) ?_
          exact ih v7 v8 _ _ _ hW (lv_sub hl [2, 3, 4, 1, 0] rfl) h
  refine hL5 a1 a2 _ (fun w9 H locs ls hW hl h => ?_) n a1 0 _ _ _ hW (lv_sub hl [2, 3, 4, 1, 0] rfl) h
  refine lv_iload_n hx hb dX12_nextLevel_55 rfl (lv_at hl 0 rfl) ?_
  exact hret H locs _ ls _ (Option.some.inj h) rfl hW dX12_nextLevel_56
def rmX12_lastLevel : Room := { frames := 3, cells := 0, slots := 0, locals := 67 }
def LX12_lastLevel_14 (n : Nat) (σ : SC) (y2 : Int32) (K : Int32 → Option Int32) : Nat → Int32 → Int32 → Option Int32
  | 0, _, _ => none
  | k + 1, y3, y4 => if y4 = y3 then K y3 else bd (f_X12_nextLevel n σ y4 y2) (fun v5 => LX12_lastLevel_14 n σ y2 K k y4 v5)
def f_X12_lastLevel (n : Nat) (σ : SC) (a1 : Int32) (a2 : Int32) : Option Int32 := lt (a1 &&& (a2 ^^^ (-1))) (fun v1 => bd (f_X12_nextLevel n σ v1 a2) (fun v3 => LX12_lastLevel_14 n σ a2 (fun w6 => some w6) n v1 v3))
theorem mi_X12_lastLevel : MI yX12_lastLevel cX12_lastLevel 5 (some .int) 2 := ⟨im_X12_lastLevel, se_X12_lastLevel, in_X12, co_X12_lastLevel, by decide, by decide, by decide +kernel⟩
set_option maxRecDepth 100000 in
set_option maxHeartbeats 4000000 in
theorem ct_X12_lastLevel (l : Launch) (n : Nat) (G : EN) (A : Nat → Nat) (σ : SC) (sz : Nat) (a1 : Int32) (a2 : Int32) {r0 : Int32} (h : f_X12_lastLevel n σ a1 a2 = some r0) : CT l yX12_lastLevel cX12_lastLevel 5 (some .int) rmX12_lastLevel G sz [.ref (A 0), .int a1, .int a2] (wM G A σ) (QI G (va_A (wM G A σ) sz) r0 (wM G A σ)) := by
  unfold f_X12_lastLevel at h
  refine CI.intro (lv := [(0, .ref (A 0)), (1, .int a1), (2, .int a2)]) (by decide) (Nat.le_of_ble_eq_true rfl) rfl ?_
  intro p e s m args below meth c Q B S hret H locs ls hW hl
  have hx := S.1
  have hb := S.2.1
  refine lv_iload_n hx hb dX12_lastLevel_0 rfl (lv_at hl 1 rfl) ?_
  refine lv_iload_n hx hb dX12_lastLevel_1 rfl (lv_at hl 2 rfl) ?_
  refine lv_iconst (v := (-1)) hx hb dX12_lastLevel_2 (by decide) ?_
  refine lv_ixor hx hb dX12_lastLevel_3 ?_
  refine lv_iand hx hb dX12_lastLevel_4 ?_
  refine nm_i h (fun v1 h => ?_)
  refine lv_istore_n (lv' := [(3, .int v1), (0, .ref (A 0)), (1, .int a1), (2, .int a2)]) hx hb dX12_lastLevel_5 rfl hl (by decide) rfl (fun ls hl => ?_)
  refine lv_aload_n hx hb dX12_lastLevel_6 rfl (lv_at hl 1 rfl) ?_
  refine lv_iload_n hx hb dX12_lastLevel_7 rfl (lv_at hl 0 rfl) ?_
  refine lv_iload_n hx hb dX12_lastLevel_8 rfl (lv_at hl 3 rfl) ?_
  obtain ⟨v3, h2, h⟩ := bd_o h
  refine back_i (rest := []) hW (run_V S hW (ct_X12_nextLevel l n G A σ _ v1 a2 h2) mi_X12_nextLevel lk_X12_171 (eM_0 G A σ) rfl rfl rfl hl (Nat.le_of_ble_eq_true rfl) dX12_lastLevel_9 ⟨Nat.le_of_ble_eq_true rfl, Nat.le_of_ble_eq_true rfl⟩ rfl rfl) (fun H locs hW => ?_)
  refine lv_istore (lv' := [(4, .int v3), (3, .int v1), (0, .ref (A 0)), (1, .int a1), (2, .int a2)]) hx hb dX12_lastLevel_12 hl (by decide) rfl (fun ls hl => ?_)
  have hL14 : ∀ (y2 : Int32) (K : Int32 → Option Int32), (∀ (z3 : Int32) (H : Heap) (locs : List Loc) (ls : Array Slot), WS G B s (wM G A σ) H locs → lv_has ls 5 [(3, .int z3)] → K z3 = some r0 → W p l e rmX12_lastLevel s m args below meth c H locs 0 0 Q (F0 m 34 ls [])) → ∀ (k : Nat)  (y3 : Int32) (y4 : Int32)  (H : Heap) (locs : List Loc) (ls : Array Slot), WS G B s (wM G A σ) H locs → lv_has ls 5 [(0, .ref (A 0)), (2, .int y2), (3, .int y3), (4, .int y4)] → LX12_lastLevel_14 n σ y2 K k y3 y4 = some r0 → W p l e rmX12_lastLevel s m args below meth c H locs 0 0 Q (F0 m 14 ls []) := by
    intro y2 K hK k
    induction k with
    | zero => intro y3 y4 H locs ls hW hl h; rw [LX12_lastLevel_14] at h; cases h
    | succ k ih =>
      intro y3 y4 H locs ls hW hl h
      rw [LX12_lastLevel_14] at h
      refine lv_iload hx hb dX12_lastLevel_14 (lv_at hl 3 rfl) ?_
      refine lv_iload_n hx hb dX12_lastLevel_16 rfl (lv_at hl 2 rfl) ?_
      refine bc_eq (tgt := 34) hx hb h dX12_lastLevel_17 (by decide) (fun _ h => ?_) (fun _ h => ?_)
      · exact hK y3 _ _ _ hW (lv_sub hl [2] rfl) h
      · refine lv_iload hx hb dX12_lastLevel_20 (lv_at hl 3 rfl) ?_
        refine lv_istore_n (lv' := [(3, .int y4), (0, .ref (A 0)), (2, .int y2), (4, .int y4)]) hx hb dX12_lastLevel_22 rfl hl (by decide) rfl (fun ls hl => ?_)
        refine lv_aload_n hx hb dX12_lastLevel_23 rfl (lv_at hl 1 rfl) ?_
        refine lv_iload_n hx hb dX12_lastLevel_24 rfl (lv_at hl 0 rfl) ?_
        refine lv_iload_n hx hb dX12_lastLevel_25 rfl (lv_at hl 2 rfl) ?_
        obtain ⟨v5, h4, h⟩ := bd_o h
        refine back_i (rest := []) hW (run_V S hW (ct_X12_nextLevel l n G A σ _ y4 y2 h4) mi_X12_nextLevel lk_X12_171 (eM_0 G A σ) rfl rfl rfl hl (Nat.le_of_ble_eq_true rfl) dX12_lastLevel_26 ⟨Nat.le_of_ble_eq_true rfl, Nat.le_of_ble_eq_true rfl⟩ rfl rfl) (fun H locs hW => ?_)
        refine lv_istore (lv' := [(4, .int v5), (3, .int y4), (0, .ref (A 0)), (2, .int y2)]) hx hb dX12_lastLevel_29 hl (by decide) rfl (fun ls hl => ?_)
        refine lv_goto (tgt := 14) hx hb dX12_lastLevel_31 (by decide) ?_
        exact ih y4 v5 _ _ _ hW (lv_sub hl [2, 3, 1, 0] rfl) h
  refine hL14 a2 _ (fun w6 H locs ls hW hl h => ?_) n v1 v3 _ _ _ hW (lv_sub hl [2, 4, 1, 0] rfl) h
  refine lv_iload_n hx hb dX12_lastLevel_34 rfl (lv_at hl 0 rfl) ?_
  exact hret H locs _ ls _ (Option.some.inj h) rfl hW dX12_lastLevel_35
def rmX12_level : Room := { frames := 3, cells := 0, slots := 0, locals := 67 }
def LX12_level_29 (n : Nat) (σ : SC) (y2 : Int32) (K : Int32 → Option (Int32 × SC)) : Nat → Int32 → Int32 → Option (Int32 × SC)
  | 0, _, _ => none
  | k + 1, y3, y4 => if y2 ≤ y4 then K y3 else bd (f_X12_nextLevel n σ y3 0) (fun v5 => lt (y4 + 1) (fun v6 => LX12_level_29 n σ y2 K k v5 v6))
def f_X12_level (n : Nat) (σ : SC) (a1 : Int32) (a2 : Int32) : Option (Int32 × SC) := if (f_X12_isSet a1) = 0 then bd2 (f_X12_refused σ (-6)) (fun v3 σ2 => some (v3, σ2)) else if (f_X12_in a2 0 30) = 0 then bd2 (f_X12_refused σ (-6)) (fun v10 σ9 => some (v10, σ9)) else LX12_level_29 n σ a2 (fun w7 => some (w7, σ)) n a1 0
theorem mi_X12_level : MI yX12_level cX12_level 5 (some .int) 2 := ⟨im_X12_level, se_X12_level, in_X12, co_X12_level, by decide, by decide, by decide +kernel⟩
set_option maxRecDepth 100000 in
set_option maxHeartbeats 4000000 in
theorem ct_X12_level (l : Launch) (n : Nat) (G : EN) (A : Nat → Nat) (σ : SC) (sz : Nat) (a1 : Int32) (a2 : Int32) {r0 : Int32} {σ0 : SC} (h : f_X12_level n σ a1 a2 = some (r0, σ0)) : CT l yX12_level cX12_level 5 (some .int) rmX12_level G sz [.ref (A 0), .int a1, .int a2] (wM G A σ) (QI G (va_A (wM G A σ) sz) r0 (wM G A σ0)) := by
  unfold f_X12_level at h
  refine CI.intro (lv := [(0, .ref (A 0)), (1, .int a1), (2, .int a2)]) (by decide) (Nat.le_of_ble_eq_true rfl) rfl ?_
  intro p e s m args below meth c Q B S hret H locs ls hW hl
  have hx := S.1
  have hb := S.2.1
  refine lv_iload_n hx hb dX12_level_0 rfl (lv_at hl 1 rfl) ?_
  refine back_i (rest := []) hW (run_S S hW (ct_X12_isSet l G A σ _ a1 rfl) ms_X12_isSet lk_X12_91 rfl rfl hl (Nat.le_of_ble_eq_true rfl) dX12_level_1 ⟨Nat.le_of_ble_eq_true rfl, Nat.le_of_ble_eq_true rfl⟩ rfl rfl) (fun H locs hW => ?_)
  refine bz_eq (tgt := 17) hx hb h dX12_level_4 (by decide) (fun _ h => ?_) (fun _ h => ?_)
  · refine lv_aload_n hx hb dX12_level_17 rfl (lv_at hl 0 rfl) ?_
    refine lv_bipush (v := (-6)) hx hb dX12_level_18 (by decide) ?_
    obtain ⟨v3, σ2, h1, h⟩ := bd2_o h
    refine back_i (rest := []) hW (run_V S hW (ct_X12_refused l G A σ _ (-6) h1) mi_X12_refused lk_X12_75 (eM_0 G A σ) rfl rfl rfl hl (Nat.le_of_ble_eq_true rfl) dX12_level_20 ⟨Nat.le_of_ble_eq_true rfl, Nat.le_of_ble_eq_true rfl⟩ rfl rfl) (fun H locs hW => ?_)
    exact ret_is (wf := wM G A) hret h rfl hW dX12_level_23
  · refine lv_iload_n hx hb dX12_level_7 rfl (lv_at hl 2 rfl) ?_
    refine lv_iconst (v := 0) hx hb dX12_level_8 (by decide) ?_
    refine lv_bipush (v := 30) hx hb dX12_level_9 (by decide) ?_
    refine back_i (rest := []) hW (run_S S hW (ct_X12_in l G A σ _ a2 0 30 rfl) ms_X12_in lk_X12_67 rfl rfl hl (Nat.le_of_ble_eq_true rfl) dX12_level_11 ⟨Nat.le_of_ble_eq_true rfl, Nat.le_of_ble_eq_true rfl⟩ rfl rfl) (fun H locs hW => ?_)
    refine bz_ne (tgt := 24) hx hb h dX12_level_14 (by decide) (fun _ h => ?_) (fun _ h => ?_)
    · refine lv_aload_n hx hb dX12_level_17 rfl (lv_at hl 0 rfl) ?_
      refine lv_bipush (v := (-6)) hx hb dX12_level_18 (by decide) ?_
      obtain ⟨v10, σ9, h8, h⟩ := bd2_o h
      refine back_i (rest := []) hW (run_V S hW (ct_X12_refused l G A σ _ (-6) h8) mi_X12_refused lk_X12_75 (eM_0 G A σ) rfl rfl rfl hl (Nat.le_of_ble_eq_true rfl) dX12_level_20 ⟨Nat.le_of_ble_eq_true rfl, Nat.le_of_ble_eq_true rfl⟩ rfl rfl) (fun H locs hW => ?_)
      exact ret_is (wf := wM G A) hret h rfl hW dX12_level_23
    · refine lv_iload_n hx hb dX12_level_24 rfl (lv_at hl 1 rfl) ?_
      refine lv_istore_n (lv' := [(3, .int a1), (0, .ref (A 0)), (1, .int a1), (2, .int a2)]) hx hb dX12_level_25 rfl hl (by decide) rfl (fun ls hl => ?_)
      refine lv_iconst (v := 0) hx hb dX12_level_26 (by decide) ?_
      refine lv_istore (lv' := [(4, .int 0), (3, .int a1), (0, .ref (A 0)), (1, .int a1), (2, .int a2)]) hx hb dX12_level_27 hl (by decide) rfl (fun ls hl => ?_)
      have hL29 : ∀ (y2 : Int32) (σ : SC) (K : Int32 → Option (Int32 × SC)), (∀ (z3 : Int32) (H : Heap) (locs : List Loc) (ls : Array Slot), WS G B s (wM G A σ) H locs → lv_has ls 5 [(3, .int z3)] → K z3 = some (r0, σ0) → W p l e rmX12_level s m args below meth c H locs 0 0 Q (F0 m 48 ls [])) → ∀ (k : Nat)  (y3 : Int32) (y4 : Int32)  (H : Heap) (locs : List Loc) (ls : Array Slot), WS G B s (wM G A σ) H locs → lv_has ls 5 [(0, .ref (A 0)), (2, .int y2), (3, .int y3), (4, .int y4)] → LX12_level_29 n σ y2 K k y3 y4 = some (r0, σ0) → W p l e rmX12_level s m args below meth c H locs 0 0 Q (F0 m 29 ls []) := by
        intro y2 σ K hK k
        induction k with
        | zero => intro y3 y4 H locs ls hW hl h; rw [LX12_level_29] at h; cases h
        | succ k ih =>
          intro y3 y4 H locs ls hW hl h
          rw [LX12_level_29] at h
          refine lv_iload hx hb dX12_level_29 (lv_at hl 3 rfl) ?_
          refine lv_iload_n hx hb dX12_level_31 rfl (lv_at hl 1 rfl) ?_
          refine bc_ge (tgt := 48) hx hb h dX12_level_32 (by decide) (fun _ h => ?_) (fun _ h => ?_)
          · exact hK y3 _ _ _ hW (lv_sub hl [2] rfl) h
          · refine lv_aload_n hx hb dX12_level_35 rfl (lv_at hl 0 rfl) ?_
            refine lv_iload_n hx hb dX12_level_36 rfl (lv_at hl 2 rfl) ?_
            refine lv_iconst (v := 0) hx hb dX12_level_37 (by decide) ?_
            obtain ⟨v5, h4, h⟩ := bd_o h
            refine back_i (rest := []) hW (run_V S hW (ct_X12_nextLevel l n G A σ _ y3 0 h4) mi_X12_nextLevel lk_X12_171 (eM_0 G A σ) rfl rfl rfl hl (Nat.le_of_ble_eq_true rfl) dX12_level_38 ⟨Nat.le_of_ble_eq_true rfl, Nat.le_of_ble_eq_true rfl⟩ rfl rfl) (fun H locs hW => ?_)
            refine lv_istore_n (lv' := [(3, .int v5), (0, .ref (A 0)), (2, .int y2), (4, .int y4)]) hx hb dX12_level_41 rfl hl (by decide) rfl (fun ls hl => ?_)
            refine w_iinc (lv' := [(3, .int v5), (0, .ref (A 0)), (2, .int y2)]) hx hb dX12_level_42 hl (k := 3) rfl (by decide) (by decide) rfl h (fun v6 ls hl h => ?_)
            refine lv_goto (tgt := 29) hx hb dX12_level_45 (by decide) ?_
            exact ih v5 v6 _ _ _ hW (lv_sub hl [2, 3, 1, 0] rfl) h
      refine hL29 a2 σ _ (fun w7 H locs ls hW hl h => ?_) n a1 0 _ _ _ hW (lv_sub hl [2, 4, 1, 0] rfl) h
      refine lv_iload_n hx hb dX12_level_48 rfl (lv_at hl 0 rfl) ?_
      exact ret_is (wf := wM G A) hret h rfl hW dX12_level_49
def rmX12_firstWith : Room := { frames := 3, cells := 0, slots := 0, locals := 67 }
def LX12_firstWith_5 (n : Nat) (σ : SC) (y2 : Int32) (K : Unit → Option Int32) : Nat → Int32 → Int32 → Option Int32
  | 0, _, _ => none
  | k + 1, y3, y4 => if 30 < y4 then K () else if (f_X12_has y3 y2) = 0 then bd (f_X12_nextLevel n σ y3 0) (fun v2 => lt (y4 + 1) (fun v3 => LX12_firstWith_5 n σ y2 K k v2 v3)) else some y4
def f_X12_firstWith (n : Nat) (σ : SC) (a1 : Int32) (a2 : Int32) : Option Int32 := LX12_firstWith_5 n σ a2 (fun _ => some (-1)) n a1 0
theorem mi_X12_firstWith : MI yX12_firstWith cX12_firstWith 5 (some .int) 2 := ⟨im_X12_firstWith, se_X12_firstWith, in_X12, co_X12_firstWith, by decide, by decide, by decide +kernel⟩
set_option maxRecDepth 100000 in
set_option maxHeartbeats 4000000 in
theorem ct_X12_firstWith (l : Launch) (n : Nat) (G : EN) (A : Nat → Nat) (σ : SC) (sz : Nat) (a1 : Int32) (a2 : Int32) {r0 : Int32} (h : f_X12_firstWith n σ a1 a2 = some r0) : CT l yX12_firstWith cX12_firstWith 5 (some .int) rmX12_firstWith G sz [.ref (A 0), .int a1, .int a2] (wM G A σ) (QI G (va_A (wM G A σ) sz) r0 (wM G A σ)) := by
  unfold f_X12_firstWith at h
  refine CI.intro (lv := [(0, .ref (A 0)), (1, .int a1), (2, .int a2)]) (by decide) (Nat.le_of_ble_eq_true rfl) rfl ?_
  intro p e s m args below meth c Q B S hret H locs ls hW hl
  have hx := S.1
  have hb := S.2.1
  refine lv_iload_n hx hb dX12_firstWith_0 rfl (lv_at hl 1 rfl) ?_
  refine lv_istore_n (lv' := [(3, .int a1), (0, .ref (A 0)), (1, .int a1), (2, .int a2)]) hx hb dX12_firstWith_1 rfl hl (by decide) rfl (fun ls hl => ?_)
  refine lv_iconst (v := 0) hx hb dX12_firstWith_2 (by decide) ?_
  refine lv_istore (lv' := [(4, .int 0), (3, .int a1), (0, .ref (A 0)), (1, .int a1), (2, .int a2)]) hx hb dX12_firstWith_3 hl (by decide) rfl (fun ls hl => ?_)
  have hL5 : ∀ (y2 : Int32) (K : Unit → Option Int32), (∀  (H : Heap) (locs : List Loc) (ls : Array Slot), WS G B s (wM G A σ) H locs → lv_has ls 5 [] → K () = some r0 → W p l e rmX12_firstWith s m args below meth c H locs 0 0 Q (F0 m 36 ls [])) → ∀ (k : Nat)  (y3 : Int32) (y4 : Int32)  (H : Heap) (locs : List Loc) (ls : Array Slot), WS G B s (wM G A σ) H locs → lv_has ls 5 [(0, .ref (A 0)), (2, .int y2), (3, .int y3), (4, .int y4)] → LX12_firstWith_5 n σ y2 K k y3 y4 = some r0 → W p l e rmX12_firstWith s m args below meth c H locs 0 0 Q (F0 m 5 ls []) := by
    intro y2 K hK k
    induction k with
    | zero => intro y3 y4 H locs ls hW hl h; rw [LX12_firstWith_5] at h; cases h
    | succ k ih =>
      intro y3 y4 H locs ls hW hl h
      rw [LX12_firstWith_5] at h
      refine lv_iload hx hb dX12_firstWith_5 (lv_at hl 3 rfl) ?_
      refine lv_bipush (v := 30) hx hb dX12_firstWith_7 (by decide) ?_
      refine bc_gt (tgt := 36) hx hb h dX12_firstWith_9 (by decide) (fun _ h => ?_) (fun _ h => ?_)
      · exact hK  _ _ _ hW (lv_sub hl [] rfl) h
      · refine lv_iload_n hx hb dX12_firstWith_12 rfl (lv_at hl 2 rfl) ?_
        refine lv_iload_n hx hb dX12_firstWith_13 rfl (lv_at hl 1 rfl) ?_
        refine back_i (rest := []) hW (run_S S hW (ct_X12_has l G A σ _ y3 y2 rfl) ms_X12_has lk_X12_161 rfl rfl hl (Nat.le_of_ble_eq_true rfl) dX12_firstWith_14 ⟨Nat.le_of_ble_eq_true rfl, Nat.le_of_ble_eq_true rfl⟩ rfl rfl) (fun H locs hW => ?_)
        refine bz_eq (tgt := 23) hx hb h dX12_firstWith_17 (by decide) (fun _ h => ?_) (fun _ h => ?_)
        · refine lv_aload_n hx hb dX12_firstWith_23 rfl (lv_at hl 0 rfl) ?_
          refine lv_iload_n hx hb dX12_firstWith_24 rfl (lv_at hl 2 rfl) ?_
          refine lv_iconst (v := 0) hx hb dX12_firstWith_25 (by decide) ?_
          obtain ⟨v2, h1, h⟩ := bd_o h
          refine back_i (rest := []) hW (run_V S hW (ct_X12_nextLevel l n G A σ _ y3 0 h1) mi_X12_nextLevel lk_X12_171 (eM_0 G A σ) rfl rfl rfl hl (Nat.le_of_ble_eq_true rfl) dX12_firstWith_26 ⟨Nat.le_of_ble_eq_true rfl, Nat.le_of_ble_eq_true rfl⟩ rfl rfl) (fun H locs hW => ?_)
          refine lv_istore_n (lv' := [(3, .int v2), (0, .ref (A 0)), (2, .int y2), (4, .int y4)]) hx hb dX12_firstWith_29 rfl hl (by decide) rfl (fun ls hl => ?_)
          refine w_iinc (lv' := [(3, .int v2), (0, .ref (A 0)), (2, .int y2)]) hx hb dX12_firstWith_30 hl (k := 3) rfl (by decide) (by decide) rfl h (fun v3 ls hl h => ?_)
          refine lv_goto (tgt := 5) hx hb dX12_firstWith_33 (by decide) ?_
          exact ih v2 v3 _ _ _ hW (lv_sub hl [2, 3, 1, 0] rfl) h
        · refine lv_iload hx hb dX12_firstWith_20 (lv_at hl 3 rfl) ?_
          exact hret H locs _ ls _ (Option.some.inj h) rfl hW dX12_firstWith_22
  refine hL5 a2 _ (fun  H locs ls hW hl h => ?_) n a1 0 _ _ _ hW (lv_sub hl [2, 4, 1, 0] rfl) h
  refine lv_iconst (v := (-1)) hx hb dX12_firstWith_36 (by decide) ?_
  exact hret H locs _ ls _ (Option.some.inj h) rfl hW dX12_firstWith_37
def rmX12_first : Room := { frames := 4, cells := 0, slots := 0, locals := 91 }
def f_X12_first (n : Nat) (σ : SC) (a1 : Int32) (a2 : Int32) : Option (Int32 × SC) := if (f_X12_isFact a2) = 0 then bd2 (f_X12_refusedBelow σ (-1)) (fun v8 σ7 => some (v8, σ7)) else if (f_X12_isSet a1) = 0 then bd2 (f_X12_refusedBelow σ (-6)) (fun v3 σ2 => some (v3, σ2)) else bd (f_X12_firstWith n σ a1 (1 <<< (a2 &&& 31))) (fun v5 => some (v5, σ))
theorem mi_X12_first : MI yX12_first cX12_first 3 (some .int) 2 := ⟨im_X12_first, se_X12_first, in_X12, co_X12_first, by decide, by decide, by decide +kernel⟩
set_option maxRecDepth 100000 in
set_option maxHeartbeats 4000000 in
theorem ct_X12_first (l : Launch) (n : Nat) (G : EN) (A : Nat → Nat) (σ : SC) (sz : Nat) (a1 : Int32) (a2 : Int32) {r0 : Int32} {σ0 : SC} (h : f_X12_first n σ a1 a2 = some (r0, σ0)) : CT l yX12_first cX12_first 3 (some .int) rmX12_first G sz [.ref (A 0), .int a1, .int a2] (wM G A σ) (QI G (va_A (wM G A σ) sz) r0 (wM G A σ0)) := by
  unfold f_X12_first at h
  refine CI.intro (lv := [(0, .ref (A 0)), (1, .int a1), (2, .int a2)]) (by decide) (Nat.le_of_ble_eq_true rfl) rfl ?_
  intro p e s m args below meth c Q B S hret H locs ls hW hl
  have hx := S.1
  have hb := S.2.1
  refine lv_iload_n hx hb dX12_first_0 rfl (lv_at hl 2 rfl) ?_
  refine back_i (rest := []) hW (run_S S hW (ct_X12_isFact l G A σ _ a2 rfl) ms_X12_isFact lk_X12_174 rfl rfl hl (Nat.le_of_ble_eq_true rfl) dX12_first_1 ⟨Nat.le_of_ble_eq_true rfl, Nat.le_of_ble_eq_true rfl⟩ rfl rfl) (fun H locs hW => ?_)
  refine bz_ne (tgt := 13) hx hb h dX12_first_4 (by decide) (fun _ h => ?_) (fun _ h => ?_)
  · refine lv_aload_n hx hb dX12_first_7 rfl (lv_at hl 0 rfl) ?_
    refine lv_iconst (v := (-1)) hx hb dX12_first_8 (by decide) ?_
    obtain ⟨v8, σ7, h6, h⟩ := bd2_o h
    refine back_i (rest := []) hW (run_V S hW (ct_X12_refusedBelow l G A σ _ (-1) h6) mi_X12_refusedBelow lk_X12_177 (eM_0 G A σ) rfl rfl rfl hl (Nat.le_of_ble_eq_true rfl) dX12_first_9 ⟨Nat.le_of_ble_eq_true rfl, Nat.le_of_ble_eq_true rfl⟩ rfl rfl) (fun H locs hW => ?_)
    exact ret_is (wf := wM G A) hret h rfl hW dX12_first_12
  · refine lv_iload_n hx hb dX12_first_13 rfl (lv_at hl 1 rfl) ?_
    refine back_i (rest := []) hW (run_S S hW (ct_X12_isSet l G A σ _ a1 rfl) ms_X12_isSet lk_X12_91 rfl rfl hl (Nat.le_of_ble_eq_true rfl) dX12_first_14 ⟨Nat.le_of_ble_eq_true rfl, Nat.le_of_ble_eq_true rfl⟩ rfl rfl) (fun H locs hW => ?_)
    refine bz_eq (tgt := 31) hx hb h dX12_first_17 (by decide) (fun _ h => ?_) (fun _ h => ?_)
    · refine lv_aload_n hx hb dX12_first_31 rfl (lv_at hl 0 rfl) ?_
      refine lv_bipush (v := (-6)) hx hb dX12_first_32 (by decide) ?_
      obtain ⟨v3, σ2, h1, h⟩ := bd2_o h
      refine back_i (rest := []) hW (run_V S hW (ct_X12_refusedBelow l G A σ _ (-6) h1) mi_X12_refusedBelow lk_X12_177 (eM_0 G A σ) rfl rfl rfl hl (Nat.le_of_ble_eq_true rfl) dX12_first_34 ⟨Nat.le_of_ble_eq_true rfl, Nat.le_of_ble_eq_true rfl⟩ rfl rfl) (fun H locs hW => ?_)
      exact ret_is (wf := wM G A) hret h rfl hW dX12_first_37
    · refine lv_aload_n hx hb dX12_first_20 rfl (lv_at hl 0 rfl) ?_
      refine lv_iload_n hx hb dX12_first_21 rfl (lv_at hl 1 rfl) ?_
      refine lv_iconst (v := 1) hx hb dX12_first_22 (by decide) ?_
      refine lv_iload_n hx hb dX12_first_23 rfl (lv_at hl 2 rfl) ?_
      refine lv_ishl hx hb dX12_first_24 ?_
      obtain ⟨v5, h4, h⟩ := bd_o h
      refine back_i (rest := []) hW (run_V S hW (ct_X12_firstWith l n G A σ _ a1 (1 <<< (a2 &&& 31)) h4) mi_X12_firstWith lk_X12_180 (eM_0 G A σ) rfl rfl rfl hl (Nat.le_of_ble_eq_true rfl) dX12_first_25 ⟨Nat.le_of_ble_eq_true rfl, Nat.le_of_ble_eq_true rfl⟩ rfl rfl) (fun H locs hW => ?_)
      refine lv_goto (tgt := 37) hx hb dX12_first_28 (by decide) ?_
      exact ret_is (wf := wM G A) hret h rfl hW dX12_first_37
def rmX12_firstOf : Room := { frames := 4, cells := 0, slots := 0, locals := 91 }
def f_X12_firstOf (n : Nat) (σ : SC) (a1 : Int32) (a2 : Int32) : Option (Int32 × SC) := bd (f_X12_isAction σ a2) (fun v2 => if v2 = 0 then bd2 (f_X12_refusedBelow σ (-1)) (fun v11 σ10 => some (v11, σ10)) else if (f_X12_isSet a1) = 0 then bd2 (f_X12_refusedBelow σ (-6)) (fun v5 σ4 => some (v5, σ4)) else ld (ga σ 0) 173 (0 + a2) (fun v6 => bd (f_X12_firstWith n σ a1 v6) (fun v8 => some (v8, σ))))
theorem mi_X12_firstOf : MI yX12_firstOf cX12_firstOf 3 (some .int) 2 := ⟨im_X12_firstOf, se_X12_firstOf, in_X12, co_X12_firstOf, by decide, by decide, by decide +kernel⟩
set_option maxRecDepth 100000 in
set_option maxHeartbeats 4000000 in
theorem ct_X12_firstOf (l : Launch) (n : Nat) (G : EN) (A : Nat → Nat) (σ : SC) (sz : Nat) (a1 : Int32) (a2 : Int32) {r0 : Int32} {σ0 : SC} (h : f_X12_firstOf n σ a1 a2 = some (r0, σ0)) : CT l yX12_firstOf cX12_firstOf 3 (some .int) rmX12_firstOf G sz [.ref (A 0), .int a1, .int a2] (wM G A σ) (QI G (va_A (wM G A σ) sz) r0 (wM G A σ0)) := by
  unfold f_X12_firstOf at h
  refine CI.intro (lv := [(0, .ref (A 0)), (1, .int a1), (2, .int a2)]) (by decide) (Nat.le_of_ble_eq_true rfl) rfl ?_
  intro p e s m args below meth c Q B S hret H locs ls hW hl
  have hx := S.1
  have hb := S.2.1
  refine lv_aload_n hx hb dX12_firstOf_0 rfl (lv_at hl 0 rfl) ?_
  refine lv_iload_n hx hb dX12_firstOf_1 rfl (lv_at hl 2 rfl) ?_
  obtain ⟨v2, h1, h⟩ := bd_o h
  refine back_i (rest := []) hW (run_V S hW (ct_X12_isAction l G A σ _ a2 h1) mi_X12_isAction lk_X12_85 (eM_0 G A σ) rfl rfl rfl hl (Nat.le_of_ble_eq_true rfl) dX12_firstOf_2 ⟨Nat.le_of_ble_eq_true rfl, Nat.le_of_ble_eq_true rfl⟩ rfl rfl) (fun H locs hW => ?_)
  refine bz_ne (tgt := 14) hx hb h dX12_firstOf_5 (by decide) (fun _ h => ?_) (fun _ h => ?_)
  · refine lv_aload_n hx hb dX12_firstOf_8 rfl (lv_at hl 0 rfl) ?_
    refine lv_iconst (v := (-1)) hx hb dX12_firstOf_9 (by decide) ?_
    obtain ⟨v11, σ10, h9, h⟩ := bd2_o h
    refine back_i (rest := []) hW (run_V S hW (ct_X12_refusedBelow l G A σ _ (-1) h9) mi_X12_refusedBelow lk_X12_177 (eM_0 G A σ) rfl rfl rfl hl (Nat.le_of_ble_eq_true rfl) dX12_firstOf_10 ⟨Nat.le_of_ble_eq_true rfl, Nat.le_of_ble_eq_true rfl⟩ rfl rfl) (fun H locs hW => ?_)
    exact ret_is (wf := wM G A) hret h rfl hW dX12_firstOf_13
  · refine lv_iload_n hx hb dX12_firstOf_14 rfl (lv_at hl 1 rfl) ?_
    refine back_i (rest := []) hW (run_S S hW (ct_X12_isSet l G A σ _ a1 rfl) ms_X12_isSet lk_X12_91 rfl rfl hl (Nat.le_of_ble_eq_true rfl) dX12_firstOf_15 ⟨Nat.le_of_ble_eq_true rfl, Nat.le_of_ble_eq_true rfl⟩ rfl rfl) (fun H locs hW => ?_)
    refine bz_eq (tgt := 37) hx hb h dX12_firstOf_18 (by decide) (fun _ h => ?_) (fun _ h => ?_)
    · refine lv_aload_n hx hb dX12_firstOf_37 rfl (lv_at hl 0 rfl) ?_
      refine lv_bipush (v := (-6)) hx hb dX12_firstOf_38 (by decide) ?_
      obtain ⟨v5, σ4, h3, h⟩ := bd2_o h
      refine back_i (rest := []) hW (run_V S hW (ct_X12_refusedBelow l G A σ _ (-6) h3) mi_X12_refusedBelow lk_X12_177 (eM_0 G A σ) rfl rfl rfl hl (Nat.le_of_ble_eq_true rfl) dX12_firstOf_40 ⟨Nat.le_of_ble_eq_true rfl, Nat.le_of_ble_eq_true rfl⟩ rfl rfl) (fun H locs hW => ?_)
      exact ret_is (wf := wM G A) hret h rfl hW dX12_firstOf_43
    · refine lv_aload_n hx hb dX12_firstOf_21 rfl (lv_at hl 0 rfl) ?_
      refine lv_iload_n hx hb dX12_firstOf_22 rfl (lv_at hl 1 rfl) ?_
      refine lv_aload_n hx hb dX12_firstOf_23 rfl (lv_at hl 0 rfl) ?_
      refine gM_s S hW lk_X12_7 dX12_firstOf_24 ?_
      refine lv_iconst (v := 0) hx hb dX12_firstOf_27 (by decide) ?_
      refine lv_iload_n hx hb dX12_firstOf_28 rfl (lv_at hl 2 rfl) ?_
      refine lv_iadd hx hb dX12_firstOf_29 ?_
      refine aM_1 S hW h dX12_firstOf_30 (fun v6 _ h => ?_)
      obtain ⟨v8, h7, h⟩ := bd_o h
      refine back_i (rest := []) hW (run_V S hW (ct_X12_firstWith l n G A σ _ a1 v6 h7) mi_X12_firstWith lk_X12_180 (eM_0 G A σ) rfl rfl rfl hl (Nat.le_of_ble_eq_true rfl) dX12_firstOf_31 ⟨Nat.le_of_ble_eq_true rfl, Nat.le_of_ble_eq_true rfl⟩ rfl rfl) (fun H locs hW => ?_)
      refine lv_goto (tgt := 43) hx hb dX12_firstOf_34 (by decide) ?_
      exact ret_is (wf := wM G A) hret h rfl hW dX12_firstOf_43
def rmX12_capped : Room := { frames := 0, cells := 0, slots := 0, locals := 0 }
def f_X12_capped (a0 : Int32) : Int32 := if a0 < 100000000 then if a0 ≤ 1000000 then a0 else 1000000 else 100000000
theorem ms_X12_capped : MSt yX12_capped cX12_capped 1 (some .int) 1 := ⟨sm_X12_capped, in_X12, co_X12_capped, by decide, by decide, by decide +kernel⟩
set_option maxRecDepth 100000 in
set_option maxHeartbeats 4000000 in
theorem ct_X12_capped (l : Launch) (G : EN) (A : Nat → Nat) (σ : SC) (sz : Nat) (a0 : Int32) {r0 : Int32} (h : f_X12_capped a0 = r0) : CT l yX12_capped cX12_capped 1 (some .int) rmX12_capped G sz [.int a0] (wM G A σ) (QI G (va_A (wM G A σ) sz) r0 (wM G A σ)) := by
  unfold f_X12_capped at h
  refine CI.intro (lv := [(0, .int a0)]) (by decide) (Nat.le_of_ble_eq_true rfl) rfl ?_
  intro p e s m args below meth c Q B S hret H locs ls hW hl
  have hx := S.1
  have hb := S.2.1
  refine lv_iload_n hx hb dX12_capped_0 rfl (lv_at hl 0 rfl) ?_
  refine lv_ldc (v := 100000000) hx hb S.2.2.2.1 (S.2.2.2.2 _ lk_X12_183) dX12_capped_1 ?_
  refine bc_lt (tgt := 11) hx hb h dX12_capped_3 (by decide) (fun _ h => ?_) (fun _ h => ?_)
  · refine lv_iload_n hx hb dX12_capped_11 rfl (lv_at hl 0 rfl) ?_
    refine lv_ldc (v := 1000000) hx hb S.2.2.2.1 (S.2.2.2.2 _ lk_X12_184) dX12_capped_12 ?_
    refine bc_le (tgt := 22) hx hb h dX12_capped_14 (by decide) (fun _ h => ?_) (fun _ h => ?_)
    · refine lv_iload_n hx hb dX12_capped_22 rfl (lv_at hl 0 rfl) ?_
      exact hret H locs _ ls _ h rfl hW dX12_capped_23
    · refine lv_ldc (v := 1000000) hx hb S.2.2.2.1 (S.2.2.2.2 _ lk_X12_184) dX12_capped_17 ?_
      refine lv_goto (tgt := 23) hx hb dX12_capped_19 (by decide) ?_
      exact hret H locs _ ls _ h rfl hW dX12_capped_23
  · refine lv_ldc (v := 100000000) hx hb S.2.2.2.1 (S.2.2.2.2 _ lk_X12_183) dX12_capped_6 ?_
    refine lv_goto (tgt := 23) hx hb dX12_capped_8 (by decide) ?_
    exact hret H locs _ ls _ h rfl hW dX12_capped_23
