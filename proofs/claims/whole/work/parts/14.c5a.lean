def rmX11_isShelf : Room := { frames := 0, cells := 0, slots := 0, locals := 0 }
def f_X11_isShelf (a0 : Int32) : Int32 := if a0 < 0 then 0 else if 8 ≤ a0 then 0 else 1
theorem z_X11_isShelf (a0 : Int32) : f_X11_isShelf a0 = 0 ∨ f_X11_isShelf a0 = 1 := by
  unfold f_X11_isShelf
  repeat' (first | split | exact Or.inl rfl | exact Or.inr rfl)
theorem ms_X11_isShelf : MSt yX11_isShelf cX11_isShelf 1 (some .boolean) 1 := ⟨sm_X11_isShelf, in_X11, co_X11_isShelf, by decide, by decide, by decide +kernel⟩
set_option maxRecDepth 100000 in
set_option maxHeartbeats 4000000 in
theorem ct_X11_isShelf (l : Launch) (G : EN) (A : Nat → Nat) (σ : SC) (sz : Nat) (a0 : Int32) {r0 : Int32} (h : f_X11_isShelf a0 = r0) : CT l yX11_isShelf cX11_isShelf 1 (some .boolean) rmX11_isShelf G sz [.int a0] (wC G A σ) (QI G (va_A (wC G A σ) sz) r0 (wC G A σ)) := by
  unfold f_X11_isShelf at h
  refine CI.intro (lv := [(0, .int a0)]) (by decide) (Nat.le_of_ble_eq_true rfl) rfl ?_
  intro p e s m args below meth c Q B S hret H locs ls hW hl
  have hx := S.1
  have hb := S.2.1
  refine lv_iload_n hx hb dX11_isShelf_0 rfl (lv_at hl 0 rfl) ?_
  refine bz_lt (tgt := 14) hx hb h dX11_isShelf_1 (by decide) (fun _ h => ?_) (fun _ h => ?_)
  · refine lv_iconst (v := 0) hx hb dX11_isShelf_14 (by decide) ?_
    exact hret H locs _ ls _ h (nar_z (Or.inl rfl)) hW dX11_isShelf_15
  · refine lv_iload_n hx hb dX11_isShelf_4 rfl (lv_at hl 0 rfl) ?_
    refine lv_bipush (v := 8) hx hb dX11_isShelf_5 (by decide) ?_
    refine bc_ge (tgt := 14) hx hb h dX11_isShelf_7 (by decide) (fun _ h => ?_) (fun _ h => ?_)
    · refine lv_iconst (v := 0) hx hb dX11_isShelf_14 (by decide) ?_
      exact hret H locs _ ls _ h (nar_z (Or.inl rfl)) hW dX11_isShelf_15
    · refine lv_iconst (v := 1) hx hb dX11_isShelf_10 (by decide) ?_
      refine lv_goto (tgt := 15) hx hb dX11_isShelf_11 (by decide) ?_
      exact hret H locs _ ls _ h (nar_z (Or.inr rfl)) hW dX11_isShelf_15
def rmX11_refuse : Room := { frames := 0, cells := 0, slots := 0, locals := 0 }
def f_X11_refuse (σ : SC) (a1 : Int32) : Option (Int32 × SC) := lt ((-a1) - 1) (fun v1 => if v1 < 0 then some (a1, σ) else if 7 ≤ v1 then some (a1, σ) else ld (ga σ 17) 7 v1 (fun v2 => ck 7 v1 (lt (sa σ 17 (upd (ga σ 17) v1.toNatClampNeg (v2 + 1))) (fun σ3 => some (a1, σ3)))))
theorem mi_X11_refuse : MI yX11_refuse cX11_refuse 3 (some .int) 1 := ⟨im_X11_refuse, se_X11_refuse, in_X11, co_X11_refuse, by decide, by decide, by decide +kernel⟩
set_option maxRecDepth 100000 in
set_option maxHeartbeats 4000000 in
theorem ct_X11_refuse (l : Launch) (G : EN) (A : Nat → Nat) (σ : SC) (sz : Nat) (a1 : Int32) {r0 : Int32} {σ0 : SC} (h : f_X11_refuse σ a1 = some (r0, σ0)) : CT l yX11_refuse cX11_refuse 3 (some .int) rmX11_refuse G sz [.ref (A 0), .int a1] (wC G A σ) (QI G (va_A (wC G A σ) sz) r0 (wC G A σ0)) := by
  unfold f_X11_refuse at h
  refine CI.intro (lv := [(0, .ref (A 0)), (1, .int a1)]) (by decide) (Nat.le_of_ble_eq_true rfl) rfl ?_
  intro p e s m args below meth c Q B S hret H locs ls hW hl
  have hx := S.1
  have hb := S.2.1
  refine lv_iload_n hx hb dX11_refuse_0 rfl (lv_at hl 1 rfl) ?_
  refine lv_ineg hx hb dX11_refuse_1 ?_
  refine lv_iconst (v := 1) hx hb dX11_refuse_2 (by decide) ?_
  refine lv_isub hx hb dX11_refuse_3 ?_
  refine nm_i h (fun v1 h => ?_)
  refine lv_istore_n (lv' := [(2, .int v1), (0, .ref (A 0)), (1, .int a1)]) hx hb dX11_refuse_4 rfl hl (by decide) rfl (fun ls hl => ?_)
  refine lv_iload_n hx hb dX11_refuse_5 rfl (lv_at hl 0 rfl) ?_
  refine bz_lt (tgt := 25) hx hb h dX11_refuse_6 (by decide) (fun _ h => ?_) (fun _ h => ?_)
  · refine lv_iload_n hx hb dX11_refuse_25 rfl (lv_at hl 2 rfl) ?_
    exact ret_is (wf := wC G A) hret h rfl hW dX11_refuse_26
  · refine lv_iload_n hx hb dX11_refuse_9 rfl (lv_at hl 0 rfl) ?_
    refine lv_bipush (v := 7) hx hb dX11_refuse_10 (by decide) ?_
    refine bc_ge (tgt := 25) hx hb h dX11_refuse_12 (by decide) (fun _ h => ?_) (fun _ h => ?_)
    · refine lv_iload_n hx hb dX11_refuse_25 rfl (lv_at hl 2 rfl) ?_
      exact ret_is (wf := wC G A) hret h rfl hW dX11_refuse_26
    · refine lv_aload_n hx hb dX11_refuse_15 rfl (lv_at hl 1 rfl) ?_
      refine gC_X11_refusals S hW lk_X11_77 dX11_refuse_16 ?_
      refine lv_iload_n hx hb dX11_refuse_19 rfl (lv_at hl 0 rfl) ?_
      refine lv_dup2_11 hx hb dX11_refuse_20 rfl rfl ?_
      refine aC_29 S hW h dX11_refuse_21 (fun v2 _ h => ?_)
      refine lv_iconst (v := 1) hx hb dX11_refuse_22 (by decide) ?_
      refine lv_iadd hx hb dX11_refuse_23 ?_
      refine sC_29 S hW h dX11_refuse_24 (fun σ3 H locs eσ3 _ h hW => ?_)
      have h := lt_at eσ3 h
      refine lv_iload_n hx hb dX11_refuse_25 rfl (lv_at hl 2 rfl) ?_
      exact ret_is (wf := wC G A) hret h rfl hW dX11_refuse_26
def rmX11_row : Room := { frames := 13, cells := 0, slots := 0, locals := 422 }
def f_X11_row (σ : SC) (a1 : Int32) (a2 : Int32) (a3 : Int32) : Option (Int32 × SC) := if (f_X11_isShelf a1) = 0 then bd2 (f_X11_refuse σ (-1)) (fun v18 σ17 => some (v18, σ17)) else if 0 ≤ a3 then if a2 < 0 then bd2 (f_X11_refuse σ (-6)) (fun v3 σ2 => some (v3, σ2)) else if a2 ≤ 3 then if a3 ≤ 160 then ld (fun k => k) 8 a1 (fun j4 => bd (f_X8_holdRow σ j4 a2 a3) (fun σ6 => some (1, σ6))) else bd2 (f_X11_refuse σ (-7)) (fun v9 σ8 => some (v9, σ8)) else bd2 (f_X11_refuse σ (-6)) (fun v12 σ11 => some (v12, σ11)) else bd2 (f_X11_refuse σ (-4)) (fun v15 σ14 => some (v15, σ14))
theorem mi_X11_row : MI yX11_row cX11_row 4 (some .int) 3 := ⟨im_X11_row, se_X11_row, in_X11, co_X11_row, by decide, by decide, by decide +kernel⟩
set_option maxRecDepth 100000 in
set_option maxHeartbeats 4000000 in
theorem ct_X11_row (l : Launch) (G : EN) (A : Nat → Nat) (σ : SC) (sz : Nat) (a1 : Int32) (a2 : Int32) (a3 : Int32) {r0 : Int32} {σ0 : SC} (h : f_X11_row σ a1 a2 a3 = some (r0, σ0)) : CT l yX11_row cX11_row 4 (some .int) rmX11_row G sz [.ref (A 0), .int a1, .int a2, .int a3] (wC G A σ) (QI G (va_A (wC G A σ) sz) r0 (wC G A σ0)) := by
  unfold f_X11_row at h
  refine CI.intro (lv := [(0, .ref (A 0)), (1, .int a1), (2, .int a2), (3, .int a3)]) (by decide) (Nat.le_of_ble_eq_true rfl) rfl ?_
  intro p e s m args below meth c Q B S hret H locs ls hW hl
  have hx := S.1
  have hb := S.2.1
  refine lv_iload_n hx hb dX11_row_0 rfl (lv_at hl 1 rfl) ?_
  refine back_i (rest := []) hW (run_S S hW (ct_X11_isShelf l G A σ _ a1 rfl) ms_X11_isShelf lk_X11_104 rfl rfl hl (Nat.le_of_ble_eq_true rfl) dX11_row_1 ⟨Nat.le_of_ble_eq_true rfl, Nat.le_of_ble_eq_true rfl⟩ rfl rfl) (fun H locs hW => ?_)
  refine bz_ne (tgt := 13) hx hb h dX11_row_4 (by decide) (fun _ h => ?_) (fun _ h => ?_)
  · refine lv_aload_n hx hb dX11_row_7 rfl (lv_at hl 0 rfl) ?_
    refine lv_iconst (v := (-1)) hx hb dX11_row_8 (by decide) ?_
    obtain ⟨v18, σ17, h16, h⟩ := bd2_o h
    refine back_i (rest := []) hW (run_V S hW (ct_X11_refuse l G A σ _ (-1) h16) mi_X11_refuse lk_X11_108 (eC_0 G A σ) rfl rfl rfl hl (Nat.le_of_ble_eq_true rfl) dX11_row_9 ⟨Nat.le_of_ble_eq_true rfl, Nat.le_of_ble_eq_true rfl⟩ rfl rfl) (fun H locs hW => ?_)
    exact ret_is (wf := wC G A) hret h rfl hW dX11_row_12
  · refine lv_iload_n hx hb dX11_row_13 rfl (lv_at hl 3 rfl) ?_
    refine bz_ge (tgt := 24) hx hb h dX11_row_14 (by decide) (fun _ h => ?_) (fun _ h => ?_)
    · refine lv_iload_n hx hb dX11_row_24 rfl (lv_at hl 2 rfl) ?_
      refine bz_lt (tgt := 33) hx hb h dX11_row_25 (by decide) (fun _ h => ?_) (fun _ h => ?_)
      · refine lv_aload_n hx hb dX11_row_33 rfl (lv_at hl 0 rfl) ?_
        refine lv_bipush (v := (-6)) hx hb dX11_row_34 (by decide) ?_
        obtain ⟨v3, σ2, h1, h⟩ := bd2_o h
        refine back_i (rest := []) hW (run_V S hW (ct_X11_refuse l G A σ _ (-6) h1) mi_X11_refuse lk_X11_108 (eC_0 G A σ) rfl rfl rfl hl (Nat.le_of_ble_eq_true rfl) dX11_row_36 ⟨Nat.le_of_ble_eq_true rfl, Nat.le_of_ble_eq_true rfl⟩ rfl rfl) (fun H locs hW => ?_)
        exact ret_is (wf := wC G A) hret h rfl hW dX11_row_39
      · refine lv_iload_n hx hb dX11_row_28 rfl (lv_at hl 2 rfl) ?_
        refine lv_iconst (v := 3) hx hb dX11_row_29 (by decide) ?_
        refine bc_le (tgt := 40) hx hb h dX11_row_30 (by decide) (fun _ h => ?_) (fun _ h => ?_)
        · refine lv_iload_n hx hb dX11_row_40 rfl (lv_at hl 3 rfl) ?_
          refine lv_sipush (v := 160) hx hb dX11_row_41 (by decide) ?_
          refine bc_le (tgt := 54) hx hb h dX11_row_44 (by decide) (fun _ h => ?_) (fun _ h => ?_)
          · refine lv_aload_n hx hb dX11_row_54 rfl (lv_at hl 0 rfl) ?_
            refine gC_X11_shelves S hW lk_X11_18 dX11_row_55 ?_
            refine lv_iload_n hx hb dX11_row_58 rfl (lv_at hl 1 rfl) ?_
            refine aC_shelf S hW h dX11_row_59 (fun j4 hj4 h => ?_)
            refine lv_iload_n hx hb dX11_row_60 rfl (lv_at hl 2 rfl) ?_
            refine lv_iload_n hx hb dX11_row_61 rfl (lv_at hl 3 rfl) ?_
            obtain ⟨σ6, h5, h⟩ := bd_o h
            refine back_v (rest := []) hW (run_V S hW (ct_X8_holdRow l G A σ _ j4 a2 a3 hj4 h5) mi_X8_holdRow lk_X11_112 (eC_sh G A σ hj4) rfl rfl rfl hl (Nat.le_of_ble_eq_true rfl) dX11_row_62 ⟨Nat.le_of_ble_eq_true rfl, Nat.le_of_ble_eq_true rfl⟩ rfl rfl) (fun H locs hW => ?_)
            refine lv_iconst (v := 1) hx hb dX11_row_65 (by decide) ?_
            exact ret_is (wf := wC G A) hret h rfl hW dX11_row_66
          · refine lv_aload_n hx hb dX11_row_47 rfl (lv_at hl 0 rfl) ?_
            refine lv_bipush (v := (-7)) hx hb dX11_row_48 (by decide) ?_
            obtain ⟨v9, σ8, h7, h⟩ := bd2_o h
            refine back_i (rest := []) hW (run_V S hW (ct_X11_refuse l G A σ _ (-7) h7) mi_X11_refuse lk_X11_108 (eC_0 G A σ) rfl rfl rfl hl (Nat.le_of_ble_eq_true rfl) dX11_row_50 ⟨Nat.le_of_ble_eq_true rfl, Nat.le_of_ble_eq_true rfl⟩ rfl rfl) (fun H locs hW => ?_)
            exact ret_is (wf := wC G A) hret h rfl hW dX11_row_53
        · refine lv_aload_n hx hb dX11_row_33 rfl (lv_at hl 0 rfl) ?_
          refine lv_bipush (v := (-6)) hx hb dX11_row_34 (by decide) ?_
          obtain ⟨v12, σ11, h10, h⟩ := bd2_o h
          refine back_i (rest := []) hW (run_V S hW (ct_X11_refuse l G A σ _ (-6) h10) mi_X11_refuse lk_X11_108 (eC_0 G A σ) rfl rfl rfl hl (Nat.le_of_ble_eq_true rfl) dX11_row_36 ⟨Nat.le_of_ble_eq_true rfl, Nat.le_of_ble_eq_true rfl⟩ rfl rfl) (fun H locs hW => ?_)
          exact ret_is (wf := wC G A) hret h rfl hW dX11_row_39
    · refine lv_aload_n hx hb dX11_row_17 rfl (lv_at hl 0 rfl) ?_
      refine lv_bipush (v := (-4)) hx hb dX11_row_18 (by decide) ?_
      obtain ⟨v15, σ14, h13, h⟩ := bd2_o h
      refine back_i (rest := []) hW (run_V S hW (ct_X11_refuse l G A σ _ (-4) h13) mi_X11_refuse lk_X11_108 (eC_0 G A σ) rfl rfl rfl hl (Nat.le_of_ble_eq_true rfl) dX11_row_20 ⟨Nat.le_of_ble_eq_true rfl, Nat.le_of_ble_eq_true rfl⟩ rfl rfl) (fun H locs hW => ?_)
      exact ret_is (wf := wC G A) hret h rfl hW dX11_row_23
def rmX11_refusalOfRow : Room := { frames := 1, cells := 0, slots := 0, locals := 20 }
def f_X11_refusalOfRow (σ : SC) (a1 : Int32) : Option Int32 := if (f_X11_isShelf a1) = 0 then some (-1) else ld (fun k => k) 8 a1 (fun j1 => if (f_X8_hasAction σ j1) = 0 then ld (fun k => k) 8 a1 (fun j2 => if (f_X8_hasRow σ j2) = 0 then some (-3) else some 0) else some (-2))
theorem mi_X11_refusalOfRow : MI yX11_refusalOfRow cX11_refusalOfRow 2 (some .int) 1 := ⟨im_X11_refusalOfRow, se_X11_refusalOfRow, in_X11, co_X11_refusalOfRow, by decide, by decide, by decide +kernel⟩
set_option maxRecDepth 100000 in
set_option maxHeartbeats 4000000 in
theorem ct_X11_refusalOfRow (l : Launch) (G : EN) (A : Nat → Nat) (σ : SC) (sz : Nat) (a1 : Int32) {r0 : Int32} (h : f_X11_refusalOfRow σ a1 = some r0) : CT l yX11_refusalOfRow cX11_refusalOfRow 2 (some .int) rmX11_refusalOfRow G sz [.ref (A 0), .int a1] (wC G A σ) (QI G (va_A (wC G A σ) sz) r0 (wC G A σ)) := by
  unfold f_X11_refusalOfRow at h
  refine CI.intro (lv := [(0, .ref (A 0)), (1, .int a1)]) (by decide) (Nat.le_of_ble_eq_true rfl) rfl ?_
  intro p e s m args below meth c Q B S hret H locs ls hW hl
  have hx := S.1
  have hb := S.2.1
  refine lv_iload_n hx hb dX11_refusalOfRow_0 rfl (lv_at hl 1 rfl) ?_
  refine back_i (rest := []) hW (run_S S hW (ct_X11_isShelf l G A σ _ a1 rfl) ms_X11_isShelf lk_X11_104 rfl rfl hl (Nat.le_of_ble_eq_true rfl) dX11_refusalOfRow_1 ⟨Nat.le_of_ble_eq_true rfl, Nat.le_of_ble_eq_true rfl⟩ rfl rfl) (fun H locs hW => ?_)
  refine bz_ne (tgt := 9) hx hb h dX11_refusalOfRow_4 (by decide) (fun _ h => ?_) (fun _ h => ?_)
  · refine lv_iconst (v := (-1)) hx hb dX11_refusalOfRow_7 (by decide) ?_
    exact hret H locs _ ls _ (Option.some.inj h) rfl hW dX11_refusalOfRow_8
  · refine lv_aload_n hx hb dX11_refusalOfRow_9 rfl (lv_at hl 0 rfl) ?_
    refine gC_X11_shelves S hW lk_X11_18 dX11_refusalOfRow_10 ?_
    refine lv_iload_n hx hb dX11_refusalOfRow_13 rfl (lv_at hl 1 rfl) ?_
    refine aC_shelf S hW h dX11_refusalOfRow_14 (fun j1 hj1 h => ?_)
    refine back_i (rest := []) hW (run_V S hW (ct_X8_hasAction l G A σ _ j1 hj1 rfl) mi_X8_hasAction lk_X11_372 (eC_sh G A σ hj1) rfl rfl rfl hl (Nat.le_of_ble_eq_true rfl) dX11_refusalOfRow_15 ⟨Nat.le_of_ble_eq_true rfl, Nat.le_of_ble_eq_true rfl⟩ rfl rfl) (fun H locs hW => ?_)
    refine bz_eq (tgt := 24) hx hb h dX11_refusalOfRow_18 (by decide) (fun _ h => ?_) (fun _ h => ?_)
    · refine lv_aload_n hx hb dX11_refusalOfRow_24 rfl (lv_at hl 0 rfl) ?_
      refine gC_X11_shelves S hW lk_X11_18 dX11_refusalOfRow_25 ?_
      refine lv_iload_n hx hb dX11_refusalOfRow_28 rfl (lv_at hl 1 rfl) ?_
      refine aC_shelf S hW h dX11_refusalOfRow_29 (fun j2 hj2 h => ?_)
      refine back_i (rest := []) hW (run_V S hW (ct_X8_hasRow l G A σ _ j2 hj2 rfl) mi_X8_hasRow lk_X11_380 (eC_sh G A σ hj2) rfl rfl rfl hl (Nat.le_of_ble_eq_true rfl) dX11_refusalOfRow_30 ⟨Nat.le_of_ble_eq_true rfl, Nat.le_of_ble_eq_true rfl⟩ rfl rfl) (fun H locs hW => ?_)
      refine bz_eq (tgt := 40) hx hb h dX11_refusalOfRow_33 (by decide) (fun _ h => ?_) (fun _ h => ?_)
      · refine lv_bipush (v := (-3)) hx hb dX11_refusalOfRow_40 (by decide) ?_
        exact hret H locs _ ls _ (Option.some.inj h) rfl hW dX11_refusalOfRow_42
      · refine lv_iconst (v := 0) hx hb dX11_refusalOfRow_36 (by decide) ?_
        refine lv_goto (tgt := 42) hx hb dX11_refusalOfRow_37 (by decide) ?_
        exact hret H locs _ ls _ (Option.some.inj h) rfl hW dX11_refusalOfRow_42
    · refine lv_bipush (v := (-2)) hx hb dX11_refusalOfRow_21 (by decide) ?_
      exact hret H locs _ ls _ (Option.some.inj h) rfl hW dX11_refusalOfRow_23
def rmX11_set : Room := { frames := 3, cells := 0, slots := 0, locals := 64 }
def f_X11_set (σ : SC) (a1 : Int32) (a2 : Int32) (a3 : Int64) : Option (Int32 × SC) := bd (f_X11_refusalOfRow σ a1) (fun v2 => if v2 = 0 then ld (fun k => k) 8 a1 (fun j3 => if (f_X8_hasElement σ j3 a2) = 0 then bd2 (f_X11_refuse σ (-5)) (fun v9 σ8 => some (v9, σ8)) else ld (fun k => k) 8 a1 (fun j4 => bd (f_X8_keep σ j4 a2 a3) (fun σ6 => some (1, σ6)))) else bd2 (f_X11_refuse σ v2) (fun v12 σ11 => some (v12, σ11)))
theorem mi_X11_set : MI yX11_set cX11_set 6 (some .int) 3 := ⟨im_X11_set, se_X11_set, in_X11, co_X11_set, by decide, by decide, by decide +kernel⟩
set_option maxRecDepth 100000 in
set_option maxHeartbeats 4000000 in
theorem ct_X11_set (l : Launch) (G : EN) (A : Nat → Nat) (σ : SC) (sz : Nat) (a1 : Int32) (a2 : Int32) (a3 : Int64) {r0 : Int32} {σ0 : SC} (h : f_X11_set σ a1 a2 a3 = some (r0, σ0)) : CT l yX11_set cX11_set 6 (some .int) rmX11_set G sz [.ref (A 0), .int a1, .int a2, .long a3] (wC G A σ) (QI G (va_A (wC G A σ) sz) r0 (wC G A σ0)) := by
  unfold f_X11_set at h
  refine CI.intro (lv := [(0, .ref (A 0)), (1, .int a1), (2, .int a2), (3, .long a3)]) (by decide) (Nat.le_of_ble_eq_true rfl) rfl ?_
  intro p e s m args below meth c Q B S hret H locs ls hW hl
  have hx := S.1
  have hb := S.2.1
  refine lv_aload_n hx hb dX11_set_0 rfl (lv_at hl 0 rfl) ?_
  refine lv_iload_n hx hb dX11_set_1 rfl (lv_at hl 1 rfl) ?_
  obtain ⟨v2, h1, h⟩ := bd_o h
  refine back_i (rest := []) hW (run_V S hW (ct_X11_refusalOfRow l G A σ _ a1 h1) mi_X11_refusalOfRow lk_X11_116 (eC_0 G A σ) rfl rfl rfl hl (Nat.le_of_ble_eq_true rfl) dX11_set_2 ⟨Nat.le_of_ble_eq_true rfl, Nat.le_of_ble_eq_true rfl⟩ rfl rfl) (fun H locs hW => ?_)
  refine lv_istore (lv' := [(5, .int v2), (0, .ref (A 0)), (1, .int a1), (2, .int a2), (3, .long a3)]) hx hb dX11_set_5 hl (by decide) rfl (fun ls hl => ?_)
  refine lv_iload hx hb dX11_set_7 (lv_at hl 0 rfl) ?_
  refine bz_eq (tgt := 19) hx hb h dX11_set_9 (by decide) (fun _ h => ?_) (fun _ h => ?_)
  · refine lv_aload_n hx hb dX11_set_19 rfl (lv_at hl 1 rfl) ?_
    refine gC_X11_shelves S hW lk_X11_18 dX11_set_20 ?_
    refine lv_iload_n hx hb dX11_set_23 rfl (lv_at hl 2 rfl) ?_
    refine aC_shelf S hW h dX11_set_24 (fun j3 hj3 h => ?_)
    refine lv_iload_n hx hb dX11_set_25 rfl (lv_at hl 3 rfl) ?_
    refine back_i (rest := []) hW (run_V S hW (ct_X8_hasElement l G A σ _ j3 a2 hj3 rfl) mi_X8_hasElement lk_X11_119 (eC_sh G A σ hj3) rfl rfl rfl hl (Nat.le_of_ble_eq_true rfl) dX11_set_26 ⟨Nat.le_of_ble_eq_true rfl, Nat.le_of_ble_eq_true rfl⟩ rfl rfl) (fun H locs hW => ?_)
    refine bz_ne (tgt := 39) hx hb h dX11_set_29 (by decide) (fun _ h => ?_) (fun _ h => ?_)
    · refine lv_aload_n hx hb dX11_set_32 rfl (lv_at hl 1 rfl) ?_
      refine lv_bipush (v := (-5)) hx hb dX11_set_33 (by decide) ?_
      obtain ⟨v9, σ8, h7, h⟩ := bd2_o h
      refine back_i (rest := []) hW (run_V S hW (ct_X11_refuse l G A σ _ (-5) h7) mi_X11_refuse lk_X11_108 (eC_0 G A σ) rfl rfl rfl hl (Nat.le_of_ble_eq_true rfl) dX11_set_35 ⟨Nat.le_of_ble_eq_true rfl, Nat.le_of_ble_eq_true rfl⟩ rfl rfl) (fun H locs hW => ?_)
      exact ret_is (wf := wC G A) hret h rfl hW dX11_set_38
    · refine lv_aload_n hx hb dX11_set_39 rfl (lv_at hl 1 rfl) ?_
      refine gC_X11_shelves S hW lk_X11_18 dX11_set_40 ?_
      refine lv_iload_n hx hb dX11_set_43 rfl (lv_at hl 2 rfl) ?_
      refine aC_shelf S hW h dX11_set_44 (fun j4 hj4 h => ?_)
      refine lv_iload_n hx hb dX11_set_45 rfl (lv_at hl 3 rfl) ?_
      refine lv_lload_n hx hb dX11_set_46 rfl (lv_at hl 4 rfl) ?_
      obtain ⟨σ6, h5, h⟩ := bd_o h
      refine back_v (rest := []) hW (run_V S hW (ct_X8_keep l G A σ _ j4 a2 a3 hj4 h5) mi_X8_keep lk_X11_122 (eC_sh G A σ hj4) rfl rfl rfl hl (Nat.le_of_ble_eq_true rfl) dX11_set_47 ⟨Nat.le_of_ble_eq_true rfl, Nat.le_of_ble_eq_true rfl⟩ rfl rfl) (fun H locs hW => ?_)
      refine lv_iconst (v := 1) hx hb dX11_set_50 (by decide) ?_
      exact ret_is (wf := wC G A) hret h rfl hW dX11_set_51
  · refine lv_aload_n hx hb dX11_set_12 rfl (lv_at hl 1 rfl) ?_
    refine lv_iload hx hb dX11_set_13 (lv_at hl 0 rfl) ?_
    obtain ⟨v12, σ11, h10, h⟩ := bd2_o h
    refine back_i (rest := []) hW (run_V S hW (ct_X11_refuse l G A σ _ v2 h10) mi_X11_refuse lk_X11_108 (eC_0 G A σ) rfl rfl rfl hl (Nat.le_of_ble_eq_true rfl) dX11_set_15 ⟨Nat.le_of_ble_eq_true rfl, Nat.le_of_ble_eq_true rfl⟩ rfl rfl) (fun H locs hW => ?_)
    exact ret_is (wf := wC G A) hret h rfl hW dX11_set_18
def rmX11_refusalOfTwoRows : Room := { frames := 2, cells := 0, slots := 0, locals := 41 }
def f_X11_refusalOfTwoRows (σ : SC) (a1 : Int32) (a2 : Int32) : Option Int32 := bd (f_X11_refusalOfRow σ a1) (fun v2 => bd (f_X11_refusalOfRow σ a2) (fun v4 => if v2 = (-1) then some (-1) else if v4 = (-1) then some (-1) else if v2 = (-2) then some (-2) else if v4 = (-2) then some (-2) else if v2 = (-3) then some (-3) else if v4 = (-3) then some (-3) else ld (fun k => k) 8 a1 (fun j5 => ld (fun k => k) 8 a2 (fun j6 => if (ga σ 20 j5) = (ga σ 20 j6) then some 0 else some (-2)))))
theorem mi_X11_refusalOfTwoRows : MI yX11_refusalOfTwoRows cX11_refusalOfTwoRows 5 (some .int) 2 := ⟨im_X11_refusalOfTwoRows, se_X11_refusalOfTwoRows, in_X11, co_X11_refusalOfTwoRows, by decide, by decide, by decide +kernel⟩
set_option maxRecDepth 100000 in
set_option maxHeartbeats 4000000 in
theorem ct_X11_refusalOfTwoRows (l : Launch) (G : EN) (A : Nat → Nat) (σ : SC) (sz : Nat) (a1 : Int32) (a2 : Int32) {r0 : Int32} (h : f_X11_refusalOfTwoRows σ a1 a2 = some r0) : CT l yX11_refusalOfTwoRows cX11_refusalOfTwoRows 5 (some .int) rmX11_refusalOfTwoRows G sz [.ref (A 0), .int a1, .int a2] (wC G A σ) (QI G (va_A (wC G A σ) sz) r0 (wC G A σ)) := by
  unfold f_X11_refusalOfTwoRows at h
  refine CI.intro (lv := [(0, .ref (A 0)), (1, .int a1), (2, .int a2)]) (by decide) (Nat.le_of_ble_eq_true rfl) rfl ?_
  intro p e s m args below meth c Q B S hret H locs ls hW hl
  have hx := S.1
  have hb := S.2.1
  refine lv_aload_n hx hb dX11_refusalOfTwoRows_0 rfl (lv_at hl 0 rfl) ?_
  refine lv_iload_n hx hb dX11_refusalOfTwoRows_1 rfl (lv_at hl 1 rfl) ?_
  obtain ⟨v2, h1, h⟩ := bd_o h
  refine back_i (rest := []) hW (run_V S hW (ct_X11_refusalOfRow l G A σ _ a1 h1) mi_X11_refusalOfRow lk_X11_116 (eC_0 G A σ) rfl rfl rfl hl (Nat.le_of_ble_eq_true rfl) dX11_refusalOfTwoRows_2 ⟨Nat.le_of_ble_eq_true rfl, Nat.le_of_ble_eq_true rfl⟩ rfl rfl) (fun H locs hW => ?_)
  refine lv_istore_n (lv' := [(3, .int v2), (0, .ref (A 0)), (1, .int a1), (2, .int a2)]) hx hb dX11_refusalOfTwoRows_5 rfl hl (by decide) rfl (fun ls hl => ?_)
  refine lv_aload_n hx hb dX11_refusalOfTwoRows_6 rfl (lv_at hl 1 rfl) ?_
  refine lv_iload_n hx hb dX11_refusalOfTwoRows_7 rfl (lv_at hl 3 rfl) ?_
  obtain ⟨v4, h3, h⟩ := bd_o h
  refine back_i (rest := []) hW (run_V S hW (ct_X11_refusalOfRow l G A σ _ a2 h3) mi_X11_refusalOfRow lk_X11_116 (eC_0 G A σ) rfl rfl rfl hl (Nat.le_of_ble_eq_true rfl) dX11_refusalOfTwoRows_8 ⟨Nat.le_of_ble_eq_true rfl, Nat.le_of_ble_eq_true rfl⟩ rfl rfl) (fun H locs hW => ?_)
  refine lv_istore (lv' := [(4, .int v4), (3, .int v2), (0, .ref (A 0)), (1, .int a1), (2, .int a2)]) hx hb dX11_refusalOfTwoRows_11 hl (by decide) rfl (fun ls hl => ?_)
  refine lv_iload_n hx hb dX11_refusalOfTwoRows_13 rfl (lv_at hl 1 rfl) ?_
  refine lv_iconst (v := (-1)) hx hb dX11_refusalOfTwoRows_14 (by decide) ?_
  refine bc_eq (tgt := 24) hx hb h dX11_refusalOfTwoRows_15 (by decide) (fun _ h => ?_) (fun _ h => ?_)
  · refine lv_iconst (v := (-1)) hx hb dX11_refusalOfTwoRows_24 (by decide) ?_
    exact hret H locs _ ls _ (Option.some.inj h) rfl hW dX11_refusalOfTwoRows_25
  · refine lv_iload hx hb dX11_refusalOfTwoRows_18 (lv_at hl 0 rfl) ?_
    refine lv_iconst (v := (-1)) hx hb dX11_refusalOfTwoRows_20 (by decide) ?_
    refine bc_ne (tgt := 26) hx hb h dX11_refusalOfTwoRows_21 (by decide) (fun _ h => ?_) (fun _ h => ?_)
    · refine lv_iconst (v := (-1)) hx hb dX11_refusalOfTwoRows_24 (by decide) ?_
      exact hret H locs _ ls _ (Option.some.inj h) rfl hW dX11_refusalOfTwoRows_25
    · refine lv_iload_n hx hb dX11_refusalOfTwoRows_26 rfl (lv_at hl 1 rfl) ?_
      refine lv_bipush (v := (-2)) hx hb dX11_refusalOfTwoRows_27 (by decide) ?_
      refine bc_eq (tgt := 39) hx hb h dX11_refusalOfTwoRows_29 (by decide) (fun _ h => ?_) (fun _ h => ?_)
      · refine lv_bipush (v := (-2)) hx hb dX11_refusalOfTwoRows_39 (by decide) ?_
        exact hret H locs _ ls _ (Option.some.inj h) rfl hW dX11_refusalOfTwoRows_41
      · refine lv_iload hx hb dX11_refusalOfTwoRows_32 (lv_at hl 0 rfl) ?_
        refine lv_bipush (v := (-2)) hx hb dX11_refusalOfTwoRows_34 (by decide) ?_
        refine bc_ne (tgt := 42) hx hb h dX11_refusalOfTwoRows_36 (by decide) (fun _ h => ?_) (fun _ h => ?_)
        · refine lv_bipush (v := (-2)) hx hb dX11_refusalOfTwoRows_39 (by decide) ?_
          exact hret H locs _ ls _ (Option.some.inj h) rfl hW dX11_refusalOfTwoRows_41
        · refine lv_iload_n hx hb dX11_refusalOfTwoRows_42 rfl (lv_at hl 1 rfl) ?_
          refine lv_bipush (v := (-3)) hx hb dX11_refusalOfTwoRows_43 (by decide) ?_
          refine bc_eq (tgt := 55) hx hb h dX11_refusalOfTwoRows_45 (by decide) (fun _ h => ?_) (fun _ h => ?_)
          · refine lv_bipush (v := (-3)) hx hb dX11_refusalOfTwoRows_55 (by decide) ?_
            exact hret H locs _ ls _ (Option.some.inj h) rfl hW dX11_refusalOfTwoRows_57
          · refine lv_iload hx hb dX11_refusalOfTwoRows_48 (lv_at hl 0 rfl) ?_
            refine lv_bipush (v := (-3)) hx hb dX11_refusalOfTwoRows_50 (by decide) ?_
            refine bc_ne (tgt := 58) hx hb h dX11_refusalOfTwoRows_52 (by decide) (fun _ h => ?_) (fun _ h => ?_)
            · refine lv_bipush (v := (-3)) hx hb dX11_refusalOfTwoRows_55 (by decide) ?_
              exact hret H locs _ ls _ (Option.some.inj h) rfl hW dX11_refusalOfTwoRows_57
            · refine lv_aload_n hx hb dX11_refusalOfTwoRows_58 rfl (lv_at hl 2 rfl) ?_
              refine gC_X11_shelves S hW lk_X11_18 dX11_refusalOfTwoRows_59 ?_
              refine lv_iload_n hx hb dX11_refusalOfTwoRows_62 rfl (lv_at hl 3 rfl) ?_
              refine aC_shelf S hW h dX11_refusalOfTwoRows_63 (fun j5 hj5 h => ?_)
              refine gC_X8_content hj5 S hW lk_X11_155 dX11_refusalOfTwoRows_64 ?_
              refine lv_aload_n hx hb dX11_refusalOfTwoRows_67 rfl (lv_at hl 2 rfl) ?_
              refine gC_X11_shelves S hW lk_X11_18 dX11_refusalOfTwoRows_68 ?_
              refine lv_iload_n hx hb dX11_refusalOfTwoRows_71 rfl (lv_at hl 4 rfl) ?_
              refine aC_shelf S hW h dX11_refusalOfTwoRows_72 (fun j6 hj6 h => ?_)
              refine gC_X8_content hj6 S hW lk_X11_155 dX11_refusalOfTwoRows_73 ?_
              refine bc_ne (tgt := 83) hx hb h dX11_refusalOfTwoRows_76 (by decide) (fun _ h => ?_) (fun _ h => ?_)
              · refine lv_iconst (v := 0) hx hb dX11_refusalOfTwoRows_79 (by decide) ?_
                refine lv_goto (tgt := 85) hx hb dX11_refusalOfTwoRows_80 (by decide) ?_
                exact hret H locs _ ls _ (Option.some.inj h) rfl hW dX11_refusalOfTwoRows_85
              · refine lv_bipush (v := (-2)) hx hb dX11_refusalOfTwoRows_83 (by decide) ?_
                exact hret H locs _ ls _ (Option.some.inj h) rfl hW dX11_refusalOfTwoRows_85
def rmX11_copy : Room := { frames := 12, cells := 0, slots := 0, locals := 400 }
def f_X11_copy (σ : SC) (a1 : Int32) (a2 : Int32) (a3 : Int32) (a4 : Int32) (a5 : Int32) : Option (Int32 × SC) := bd (f_X11_refusalOfTwoRows σ a1 a2) (fun v2 => if v2 = 0 then if 0 ≤ a5 then ld (fun k => k) 8 a1 (fun j3 => if (f_X8_hasStretch σ j3 a3 a5) = 0 then bd2 (f_X11_refuse σ (-5)) (fun v6 σ5 => some (v6, σ5)) else ld (fun k => k) 8 a2 (fun j7 => if (f_X8_hasStretch σ j7 a4 a5) = 0 then bd2 (f_X11_refuse σ (-5)) (fun v13 σ12 => some (v13, σ12)) else ld (fun k => k) 8 a1 (fun j8 => ld (fun k => k) 8 a2 (fun j9 => cp 160 160 a3 a4 a5 (lt (sl σ j9 (va_cpy (gl σ j8) (gl σ j9) a3.toNatClampNeg a4.toNatClampNeg a5.toNatClampNeg)) (fun σ10 => some (1, σ10))))))) else bd2 (f_X11_refuse σ (-4)) (fun v16 σ15 => some (v16, σ15)) else bd2 (f_X11_refuse σ v2) (fun v19 σ18 => some (v19, σ18)))
theorem mi_X11_copy : MI yX11_copy cX11_copy 7 (some .int) 5 := ⟨im_X11_copy, se_X11_copy, in_X11, co_X11_copy, by decide, by decide, by decide +kernel⟩
set_option maxRecDepth 100000 in
set_option maxHeartbeats 4000000 in
theorem ct_X11_copy (l : Launch) (G : EN) (A : Nat → Nat) (σ : SC) (sz : Nat) (a1 : Int32) (a2 : Int32) (a3 : Int32) (a4 : Int32) (a5 : Int32) {r0 : Int32} {σ0 : SC} (h : f_X11_copy σ a1 a2 a3 a4 a5 = some (r0, σ0)) : CT l yX11_copy cX11_copy 7 (some .int) rmX11_copy G sz [.ref (A 0), .int a1, .int a2, .int a3, .int a4, .int a5] (wC G A σ) (QI G (va_A (wC G A σ) sz) r0 (wC G A σ0)) := by
  unfold f_X11_copy at h
  refine CI.intro (lv := [(0, .ref (A 0)), (1, .int a1), (2, .int a2), (3, .int a3), (4, .int a4), (5, .int a5)]) (by decide) (Nat.le_of_ble_eq_true rfl) rfl ?_
  intro p e s m args below meth c Q B S hret H locs ls hW hl
  have hx := S.1
  have hb := S.2.1
  refine lv_aload_n hx hb dX11_copy_0 rfl (lv_at hl 0 rfl) ?_
  refine lv_iload_n hx hb dX11_copy_1 rfl (lv_at hl 1 rfl) ?_
  refine lv_iload_n hx hb dX11_copy_2 rfl (lv_at hl 2 rfl) ?_
  obtain ⟨v2, h1, h⟩ := bd_o h
  refine back_i (rest := []) hW (run_V S hW (ct_X11_refusalOfTwoRows l G A σ _ a1 a2 h1) mi_X11_refusalOfTwoRows lk_X11_126 (eC_0 G A σ) rfl rfl rfl hl (Nat.le_of_ble_eq_true rfl) dX11_copy_3 ⟨Nat.le_of_ble_eq_true rfl, Nat.le_of_ble_eq_true rfl⟩ rfl rfl) (fun H locs hW => ?_)
  refine lv_istore (lv' := [(6, .int v2), (0, .ref (A 0)), (1, .int a1), (2, .int a2), (3, .int a3), (4, .int a4), (5, .int a5)]) hx hb dX11_copy_6 hl (by decide) rfl (fun ls hl => ?_)
  refine lv_iload hx hb dX11_copy_8 (lv_at hl 0 rfl) ?_
  refine bz_eq (tgt := 20) hx hb h dX11_copy_10 (by decide) (fun _ h => ?_) (fun _ h => ?_)
  · refine lv_iload hx hb dX11_copy_20 (lv_at hl 6 rfl) ?_
    refine bz_ge (tgt := 32) hx hb h dX11_copy_22 (by decide) (fun _ h => ?_) (fun _ h => ?_)
    · refine lv_aload_n hx hb dX11_copy_32 rfl (lv_at hl 1 rfl) ?_
      refine gC_X11_shelves S hW lk_X11_18 dX11_copy_33 ?_
      refine lv_iload_n hx hb dX11_copy_36 rfl (lv_at hl 2 rfl) ?_
      refine aC_shelf S hW h dX11_copy_37 (fun j3 hj3 h => ?_)
      refine lv_iload_n hx hb dX11_copy_38 rfl (lv_at hl 4 rfl) ?_
      refine lv_iload hx hb dX11_copy_39 (lv_at hl 6 rfl) ?_
      refine back_i (rest := []) hW (run_V S hW (ct_X8_hasStretch l G A σ _ j3 a3 a5 hj3 rfl) mi_X8_hasStretch lk_X11_130 (eC_sh G A σ hj3) rfl rfl rfl hl (Nat.le_of_ble_eq_true rfl) dX11_copy_41 ⟨Nat.le_of_ble_eq_true rfl, Nat.le_of_ble_eq_true rfl⟩ rfl rfl) (fun H locs hW => ?_)
      refine bz_eq (tgt := 63) hx hb h dX11_copy_44 (by decide) (fun _ h => ?_) (fun _ h => ?_)
      · refine lv_aload_n hx hb dX11_copy_63 rfl (lv_at hl 1 rfl) ?_
        refine lv_bipush (v := (-5)) hx hb dX11_copy_64 (by decide) ?_
        obtain ⟨v6, σ5, h4, h⟩ := bd2_o h
        refine back_i (rest := []) hW (run_V S hW (ct_X11_refuse l G A σ _ (-5) h4) mi_X11_refuse lk_X11_108 (eC_0 G A σ) rfl rfl rfl hl (Nat.le_of_ble_eq_true rfl) dX11_copy_66 ⟨Nat.le_of_ble_eq_true rfl, Nat.le_of_ble_eq_true rfl⟩ rfl rfl) (fun H locs hW => ?_)
        exact ret_is (wf := wC G A) hret h rfl hW dX11_copy_69
      · refine lv_aload_n hx hb dX11_copy_47 rfl (lv_at hl 1 rfl) ?_
        refine gC_X11_shelves S hW lk_X11_18 dX11_copy_48 ?_
        refine lv_iload_n hx hb dX11_copy_51 rfl (lv_at hl 3 rfl) ?_
        refine aC_shelf S hW h dX11_copy_52 (fun j7 hj7 h => ?_)
        refine lv_iload hx hb dX11_copy_53 (lv_at hl 5 rfl) ?_
        refine lv_iload hx hb dX11_copy_55 (lv_at hl 6 rfl) ?_
        refine back_i (rest := []) hW (run_V S hW (ct_X8_hasStretch l G A σ _ j7 a4 a5 hj7 rfl) mi_X8_hasStretch lk_X11_130 (eC_sh G A σ hj7) rfl rfl rfl hl (Nat.le_of_ble_eq_true rfl) dX11_copy_57 ⟨Nat.le_of_ble_eq_true rfl, Nat.le_of_ble_eq_true rfl⟩ rfl rfl) (fun H locs hW => ?_)
        refine bz_ne (tgt := 70) hx hb h dX11_copy_60 (by decide) (fun _ h => ?_) (fun _ h => ?_)
        · refine lv_aload_n hx hb dX11_copy_63 rfl (lv_at hl 1 rfl) ?_
          refine lv_bipush (v := (-5)) hx hb dX11_copy_64 (by decide) ?_
          obtain ⟨v13, σ12, h11, h⟩ := bd2_o h
          refine back_i (rest := []) hW (run_V S hW (ct_X11_refuse l G A σ _ (-5) h11) mi_X11_refuse lk_X11_108 (eC_0 G A σ) rfl rfl rfl hl (Nat.le_of_ble_eq_true rfl) dX11_copy_66 ⟨Nat.le_of_ble_eq_true rfl, Nat.le_of_ble_eq_true rfl⟩ rfl rfl) (fun H locs hW => ?_)
          exact ret_is (wf := wC G A) hret h rfl hW dX11_copy_69
        · refine lv_aload_n hx hb dX11_copy_70 rfl (lv_at hl 1 rfl) ?_
          refine gC_X11_shelves S hW lk_X11_18 dX11_copy_71 ?_
          refine lv_iload_n hx hb dX11_copy_74 rfl (lv_at hl 2 rfl) ?_
          refine aC_shelf S hW h dX11_copy_75 (fun j8 hj8 h => ?_)
          refine gC_X8_elements hj8 S hW lk_X11_134 dX11_copy_76 ?_
          refine lv_iload_n hx hb dX11_copy_79 rfl (lv_at hl 4 rfl) ?_
          refine lv_aload_n hx hb dX11_copy_80 rfl (lv_at hl 1 rfl) ?_
          refine gC_X11_shelves S hW lk_X11_18 dX11_copy_81 ?_
          refine lv_iload_n hx hb dX11_copy_84 rfl (lv_at hl 3 rfl) ?_
          refine aC_shelf S hW h dX11_copy_85 (fun j9 hj9 h => ?_)
          refine gC_X8_elements hj9 S hW lk_X11_134 dX11_copy_86 ?_
          refine lv_iload hx hb dX11_copy_89 (lv_at hl 5 rfl) ?_
          refine lv_iload hx hb dX11_copy_91 (lv_at hl 6 rfl) ?_
          obtain ⟨c1, c2, c3, c4, c5, h⟩ := cp_o h
          refine x_copyl S hW hl (eC_el G A σ hj8) (eC_el G A σ hj9) (uC_el G A σ hj9 _) (Nat.le_of_ble_eq_true rfl) c1 c2 c3 c4 c5 (Nat.le_of_ble_eq_true rfl) dX11_copy_93 (fun H locs hW => ?_)
          obtain ⟨σ10, eσ10, h⟩ := lt_o h
          rw [← eσ10] at hW
          refine lv_iconst (v := 1) hx hb dX11_copy_96 (by decide) ?_
          exact ret_is (wf := wC G A) hret h rfl hW dX11_copy_97
    · refine lv_aload_n hx hb dX11_copy_25 rfl (lv_at hl 1 rfl) ?_
      refine lv_bipush (v := (-4)) hx hb dX11_copy_26 (by decide) ?_
      obtain ⟨v16, σ15, h14, h⟩ := bd2_o h
      refine back_i (rest := []) hW (run_V S hW (ct_X11_refuse l G A σ _ (-4) h14) mi_X11_refuse lk_X11_108 (eC_0 G A σ) rfl rfl rfl hl (Nat.le_of_ble_eq_true rfl) dX11_copy_28 ⟨Nat.le_of_ble_eq_true rfl, Nat.le_of_ble_eq_true rfl⟩ rfl rfl) (fun H locs hW => ?_)
      exact ret_is (wf := wC G A) hret h rfl hW dX11_copy_31
  · refine lv_aload_n hx hb dX11_copy_13 rfl (lv_at hl 1 rfl) ?_
    refine lv_iload hx hb dX11_copy_14 (lv_at hl 0 rfl) ?_
    obtain ⟨v19, σ18, h17, h⟩ := bd2_o h
    refine back_i (rest := []) hW (run_V S hW (ct_X11_refuse l G A σ _ v2 h17) mi_X11_refuse lk_X11_108 (eC_0 G A σ) rfl rfl rfl hl (Nat.le_of_ble_eq_true rfl) dX11_copy_16 ⟨Nat.le_of_ble_eq_true rfl, Nat.le_of_ble_eq_true rfl⟩ rfl rfl) (fun H locs hW => ?_)
    exact ret_is (wf := wC G A) hret h rfl hW dX11_copy_19
def rmX11_element : Room := { frames := 3, cells := 0, slots := 0, locals := 62 }
def f_X11_element (σ : SC) (a1 : Int32) (a2 : Int32) : Option Int64 := if (f_X11_isShelf a1) = 0 then some 0 else ld (fun k => k) 8 a1 (fun j1 => bd (f_X8_longAt σ j1 a2) (fun v3 => some v3))
theorem mi_X11_element : MI yX11_element cX11_element 3 (some .long) 2 := ⟨im_X11_element, se_X11_element, in_X11, co_X11_element, by decide, by decide, by decide +kernel⟩
set_option maxRecDepth 100000 in
set_option maxHeartbeats 4000000 in
theorem ct_X11_element (l : Launch) (G : EN) (A : Nat → Nat) (σ : SC) (sz : Nat) (a1 : Int32) (a2 : Int32) {r0 : Int64} (h : f_X11_element σ a1 a2 = some r0) : CT l yX11_element cX11_element 3 (some .long) rmX11_element G sz [.ref (A 0), .int a1, .int a2] (wC G A σ) (QJ G (va_A (wC G A σ) sz) r0 (wC G A σ)) := by
  unfold f_X11_element at h
  refine CJ.intro (lv := [(0, .ref (A 0)), (1, .int a1), (2, .int a2)]) (by decide) (Nat.le_of_ble_eq_true rfl) rfl ?_
  intro p e s m args below meth c Q B S hret H locs ls hW hl
  have hx := S.1
  have hb := S.2.1
  refine lv_iload_n hx hb dX11_element_0 rfl (lv_at hl 1 rfl) ?_
  refine back_i (rest := []) hW (run_S S hW (ct_X11_isShelf l G A σ _ a1 rfl) ms_X11_isShelf lk_X11_104 rfl rfl hl (Nat.le_of_ble_eq_true rfl) dX11_element_1 ⟨Nat.le_of_ble_eq_true rfl, Nat.le_of_ble_eq_true rfl⟩ rfl rfl) (fun H locs hW => ?_)
  refine bz_eq (tgt := 20) hx hb h dX11_element_4 (by decide) (fun _ h => ?_) (fun _ h => ?_)
  · refine lv_lconst (v := 0) hx hb dX11_element_20 (by decide) ?_
    exact hret H locs _ ls _ (Option.some.inj h) hW dX11_element_21
  · refine lv_aload_n hx hb dX11_element_7 rfl (lv_at hl 0 rfl) ?_
    refine gC_X11_shelves S hW lk_X11_18 dX11_element_8 ?_
    refine lv_iload_n hx hb dX11_element_11 rfl (lv_at hl 1 rfl) ?_
    refine aC_shelf S hW h dX11_element_12 (fun j1 hj1 h => ?_)
    refine lv_iload_n hx hb dX11_element_13 rfl (lv_at hl 2 rfl) ?_
    obtain ⟨v3, h2, h⟩ := bd_o h
    refine back_l (rest := []) hW (run_V S hW (ct_X8_longAt l G A σ _ j1 a2 hj1 h2) mi_X8_longAt lk_X11_144 (eC_sh G A σ hj1) rfl rfl rfl hl (Nat.le_of_ble_eq_true rfl) dX11_element_14 ⟨Nat.le_of_ble_eq_true rfl, Nat.le_of_ble_eq_true rfl⟩ rfl rfl) (fun H locs hW => ?_)
    refine lv_goto (tgt := 21) hx hb dX11_element_17 (by decide) ?_
    exact hret H locs _ ls _ (Option.some.inj h) hW dX11_element_21
def rmX11_show : Room := { frames := 1, cells := 0, slots := 0, locals := 22 }
def f_X11_show (σ : SC) (a1 : Int32) (a2 : Int32) : Option (Int32 × SC) := if (f_X11_isShelf a1) = 0 then bd2 (f_X11_refuse σ (-1)) (fun v3 σ2 => some (v3, σ2)) else jn (fun (_ : Unit) => ld (fun k => k) 8 a1 (fun j5 => bd (f_X8_holdAction σ j5 a2) (fun σ7 => if a2 = (-1) then some (0, σ7) else some (1, σ7)))) (fun J4 => if a2 = (-1) then J4 () else if (f_X0_has σ a2) = 0 then bd2 (f_X11_refuse σ (-1)) (fun v10 σ9 => some (v10, σ9)) else J4 ())
theorem mi_X11_show : MI yX11_show cX11_show 3 (some .int) 2 := ⟨im_X11_show, se_X11_show, in_X11, co_X11_show, by decide, by decide, by decide +kernel⟩
set_option maxRecDepth 100000 in
set_option maxHeartbeats 4000000 in
theorem ct_X11_show (l : Launch) (G : EN) (A : Nat → Nat) (σ : SC) (sz : Nat) (a1 : Int32) (a2 : Int32) {r0 : Int32} {σ0 : SC} (h : f_X11_show σ a1 a2 = some (r0, σ0)) : CT l yX11_show cX11_show 3 (some .int) rmX11_show G sz [.ref (A 0), .int a1, .int a2] (wC G A σ) (QI G (va_A (wC G A σ) sz) r0 (wC G A σ0)) := by
  unfold f_X11_show at h
  refine CI.intro (lv := [(0, .ref (A 0)), (1, .int a1), (2, .int a2)]) (by decide) (Nat.le_of_ble_eq_true rfl) rfl ?_
  intro p e s m args below meth c Q B S hret H locs ls hW hl
  have hx := S.1
  have hb := S.2.1
  refine lv_iload_n hx hb dX11_show_0 rfl (lv_at hl 1 rfl) ?_
  refine back_i (rest := []) hW (run_S S hW (ct_X11_isShelf l G A σ _ a1 rfl) ms_X11_isShelf lk_X11_104 rfl rfl hl (Nat.le_of_ble_eq_true rfl) dX11_show_1 ⟨Nat.le_of_ble_eq_true rfl, Nat.le_of_ble_eq_true rfl⟩ rfl rfl) (fun H locs hW => ?_)
  refine bz_eq (tgt := 23) hx hb h dX11_show_4 (by decide) (fun _ h => ?_) (fun _ h => ?_)
  · refine lv_aload_n hx hb dX11_show_23 rfl (lv_at hl 0 rfl) ?_
    refine lv_iconst (v := (-1)) hx hb dX11_show_24 (by decide) ?_
    obtain ⟨v3, σ2, h1, h⟩ := bd2_o h
    refine back_i (rest := []) hW (run_V S hW (ct_X11_refuse l G A σ _ (-1) h1) mi_X11_refuse lk_X11_108 (eC_0 G A σ) rfl rfl rfl hl (Nat.le_of_ble_eq_true rfl) dX11_show_25 ⟨Nat.le_of_ble_eq_true rfl, Nat.le_of_ble_eq_true rfl⟩ rfl rfl) (fun H locs hW => ?_)
    exact ret_is (wf := wC G A) hret h rfl hW dX11_show_28
  · refine lv_iload_n hx hb dX11_show_7 rfl (lv_at hl 2 rfl) ?_
    refine lv_iconst (v := (-1)) hx hb dX11_show_8 (by decide) ?_
    obtain ⟨J4, eJ4, h⟩ := jn_o h
    have hJ4 : ∀   (H : Heap) (locs : List Loc) (ls : Array Slot), WS G B s (wC G A σ) H locs → lv_has ls 3 [(0, .ref (A 0)), (1, .int a1), (2, .int a2)] → J4 () = some (r0, σ0) → W p l e rmX11_show s m args below meth c H locs 0 0 Q (F0 m 29 ls []) := by
      subst eJ4
      intro  H locs ls hW hl h
      refine lv_aload_n hx hb dX11_show_29 rfl (lv_at hl 0 rfl) ?_
      refine gC_X11_shelves S hW lk_X11_18 dX11_show_30 ?_
      refine lv_iload_n hx hb dX11_show_33 rfl (lv_at hl 1 rfl) ?_
      refine aC_shelf S hW h dX11_show_34 (fun j5 hj5 h => ?_)
      refine lv_iload_n hx hb dX11_show_35 rfl (lv_at hl 2 rfl) ?_
      obtain ⟨σ7, h6, h⟩ := bd_o h
      refine back_v (rest := []) hW (run_V S hW (ct_X8_holdAction l G A σ _ j5 a2 hj5 h6) mi_X8_holdAction lk_X11_151 (eC_sh G A σ hj5) rfl rfl rfl hl (Nat.le_of_ble_eq_true rfl) dX11_show_36 ⟨Nat.le_of_ble_eq_true rfl, Nat.le_of_ble_eq_true rfl⟩ rfl rfl) (fun H locs hW => ?_)
      refine lv_iload_n hx hb dX11_show_39 rfl (lv_at hl 2 rfl) ?_
      refine lv_iconst (v := (-1)) hx hb dX11_show_40 (by decide) ?_
      refine bc_ne (tgt := 48) hx hb h dX11_show_41 (by decide) (fun _ h => ?_) (fun _ h => ?_)
      · refine lv_iconst (v := 0) hx hb dX11_show_44 (by decide) ?_
        refine lv_goto (tgt := 49) hx hb dX11_show_45 (by decide) ?_
        exact ret_is (wf := wC G A) hret h rfl hW dX11_show_49
      · refine lv_iconst (v := 1) hx hb dX11_show_48 (by decide) ?_
        exact ret_is (wf := wC G A) hret h rfl hW dX11_show_49
    clear eJ4
    refine bc_eq (tgt := 29) hx hb h dX11_show_9 (by decide) (fun _ h => ?_) (fun _ h => ?_)
    · exact hJ4  _ _ _ hW (hl) h
    · refine lv_aload_n hx hb dX11_show_12 rfl (lv_at hl 0 rfl) ?_
      refine gC_X11_table S hW lk_X11_12 dX11_show_13 ?_
      refine lv_iload_n hx hb dX11_show_16 rfl (lv_at hl 2 rfl) ?_
      refine back_i (rest := []) hW (run_V S hW (ct_X0_has l G A σ _ a2 rfl) mi_X0_has lk_X11_148 (eC_1 G A σ) rfl rfl rfl hl (Nat.le_of_ble_eq_true rfl) dX11_show_17 ⟨Nat.le_of_ble_eq_true rfl, Nat.le_of_ble_eq_true rfl⟩ rfl rfl) (fun H locs hW => ?_)
      refine bz_ne (tgt := 29) hx hb h dX11_show_20 (by decide) (fun _ h => ?_) (fun _ h => ?_)
      · refine lv_aload_n hx hb dX11_show_23 rfl (lv_at hl 0 rfl) ?_
        refine lv_iconst (v := (-1)) hx hb dX11_show_24 (by decide) ?_
        obtain ⟨v10, σ9, h8, h⟩ := bd2_o h
        refine back_i (rest := []) hW (run_V S hW (ct_X11_refuse l G A σ _ (-1) h8) mi_X11_refuse lk_X11_108 (eC_0 G A σ) rfl rfl rfl hl (Nat.le_of_ble_eq_true rfl) dX11_show_25 ⟨Nat.le_of_ble_eq_true rfl, Nat.le_of_ble_eq_true rfl⟩ rfl rfl) (fun H locs hW => ?_)
        exact ret_is (wf := wC G A) hret h rfl hW dX11_show_28
      · exact hJ4  _ _ _ hW (hl) h
def rmX11_holds : Room := { frames := 1, cells := 0, slots := 0, locals := 20 }
def f_X11_holds (σ : SC) (a1 : Int32) : Option Int32 := if (f_X11_isShelf a1) = 0 then some (-1) else ld (fun k => k) 8 a1 (fun j1 => some (ga σ 20 j1))
theorem mi_X11_holds : MI yX11_holds cX11_holds 2 (some .int) 1 := ⟨im_X11_holds, se_X11_holds, in_X11, co_X11_holds, by decide, by decide, by decide +kernel⟩
set_option maxRecDepth 100000 in
set_option maxHeartbeats 4000000 in
theorem ct_X11_holds (l : Launch) (G : EN) (A : Nat → Nat) (σ : SC) (sz : Nat) (a1 : Int32) {r0 : Int32} (h : f_X11_holds σ a1 = some r0) : CT l yX11_holds cX11_holds 2 (some .int) rmX11_holds G sz [.ref (A 0), .int a1] (wC G A σ) (QI G (va_A (wC G A σ) sz) r0 (wC G A σ)) := by
  unfold f_X11_holds at h
  refine CI.intro (lv := [(0, .ref (A 0)), (1, .int a1)]) (by decide) (Nat.le_of_ble_eq_true rfl) rfl ?_
  intro p e s m args below meth c Q B S hret H locs ls hW hl
  have hx := S.1
  have hb := S.2.1
  refine lv_iload_n hx hb dX11_holds_0 rfl (lv_at hl 1 rfl) ?_
  refine back_i (rest := []) hW (run_S S hW (ct_X11_isShelf l G A σ _ a1 rfl) ms_X11_isShelf lk_X11_104 rfl rfl hl (Nat.le_of_ble_eq_true rfl) dX11_holds_1 ⟨Nat.le_of_ble_eq_true rfl, Nat.le_of_ble_eq_true rfl⟩ rfl rfl) (fun H locs hW => ?_)
  refine bz_eq (tgt := 19) hx hb h dX11_holds_4 (by decide) (fun _ h => ?_) (fun _ h => ?_)
  · refine lv_iconst (v := (-1)) hx hb dX11_holds_19 (by decide) ?_
    exact hret H locs _ ls _ (Option.some.inj h) rfl hW dX11_holds_20
  · refine lv_aload_n hx hb dX11_holds_7 rfl (lv_at hl 0 rfl) ?_
    refine gC_X11_shelves S hW lk_X11_18 dX11_holds_8 ?_
    refine lv_iload_n hx hb dX11_holds_11 rfl (lv_at hl 1 rfl) ?_
    refine aC_shelf S hW h dX11_holds_12 (fun j1 hj1 h => ?_)
    refine gC_X8_content hj1 S hW lk_X11_155 dX11_holds_13 ?_
    refine lv_goto (tgt := 20) hx hb dX11_holds_16 (by decide) ?_
    exact hret H locs _ ls _ (Option.some.inj h) rfl hW dX11_holds_20
def rmX11_says : Room := { frames := 1, cells := 0, slots := 0, locals := 22 }
def f_X11_says (σ : SC) (a1 : Int32) (a2 : Int32) : Option (Int32 × SC) := if (f_X11_isShelf a1) = 0 then bd2 (f_X11_refuse σ (-1)) (fun v3 σ2 => some (v3, σ2)) else if a2 < 0 then bd2 (f_X11_refuse σ (-1)) (fun v6 σ5 => some (v6, σ5)) else if a2 ≤ 2 then ld (fun k => k) 8 a1 (fun j7 => lt (ga σ 20 j7) (fun v8 => if v8 = (-1) then bd2 (f_X11_refuse σ (-3)) (fun v22 σ21 => some (v22, σ21)) else if (f_X0_has σ v8) = 0 then bd2 (f_X11_refuse σ (-2)) (fun v11 σ10 => some (v11, σ10)) else ld (ga σ 4) 24 v8 (fun v12 => if a2 ≤ v12 then if a2 = 0 then ld (ga σ 3) 24 v8 (fun v16 => some (v16, σ)) else if a2 = 1 then ld (ga σ 5) 24 v8 (fun v14 => ld (ga σ 6) 24 v8 (fun v15 => some (((100 * v14) + v15), σ))) else ld (ga σ 7) 24 v8 (fun v13 => some (v13, σ)) else bd2 (f_X11_refuse σ (-2)) (fun v19 σ18 => some (v19, σ18))))) else bd2 (f_X11_refuse σ (-1)) (fun v25 σ24 => some (v25, σ24))
theorem mi_X11_says : MI yX11_says cX11_says 4 (some .int) 2 := ⟨im_X11_says, se_X11_says, in_X11, co_X11_says, by decide, by decide, by decide +kernel⟩
set_option maxRecDepth 100000 in
set_option maxHeartbeats 4000000 in
theorem ct_X11_says (l : Launch) (G : EN) (A : Nat → Nat) (σ : SC) (sz : Nat) (a1 : Int32) (a2 : Int32) {r0 : Int32} {σ0 : SC} (h : f_X11_says σ a1 a2 = some (r0, σ0)) : CT l yX11_says cX11_says 4 (some .int) rmX11_says G sz [.ref (A 0), .int a1, .int a2] (wC G A σ) (QI G (va_A (wC G A σ) sz) r0 (wC G A σ0)) := by
  unfold f_X11_says at h
  refine CI.intro (lv := [(0, .ref (A 0)), (1, .int a1), (2, .int a2)]) (by decide) (Nat.le_of_ble_eq_true rfl) rfl ?_
  intro p e s m args below meth c Q B S hret H locs ls hW hl
  have hx := S.1
  have hb := S.2.1
  refine lv_iload_n hx hb dX11_says_0 rfl (lv_at hl 1 rfl) ?_
  refine back_i (rest := []) hW (run_S S hW (ct_X11_isShelf l G A σ _ a1 rfl) ms_X11_isShelf lk_X11_104 rfl rfl hl (Nat.le_of_ble_eq_true rfl) dX11_says_1 ⟨Nat.le_of_ble_eq_true rfl, Nat.le_of_ble_eq_true rfl⟩ rfl rfl) (fun H locs hW => ?_)
  refine bz_eq (tgt := 16) hx hb h dX11_says_4 (by decide) (fun _ h => ?_) (fun _ h => ?_)
  · refine lv_aload_n hx hb dX11_says_16 rfl (lv_at hl 0 rfl) ?_
    refine lv_iconst (v := (-1)) hx hb dX11_says_17 (by decide) ?_
    obtain ⟨v3, σ2, h1, h⟩ := bd2_o h
    refine back_i (rest := []) hW (run_V S hW (ct_X11_refuse l G A σ _ (-1) h1) mi_X11_refuse lk_X11_108 (eC_0 G A σ) rfl rfl rfl hl (Nat.le_of_ble_eq_true rfl) dX11_says_18 ⟨Nat.le_of_ble_eq_true rfl, Nat.le_of_ble_eq_true rfl⟩ rfl rfl) (fun H locs hW => ?_)
    exact ret_is (wf := wC G A) hret h rfl hW dX11_says_21
  · refine lv_iload_n hx hb dX11_says_7 rfl (lv_at hl 2 rfl) ?_
    refine bz_lt (tgt := 16) hx hb h dX11_says_8 (by decide) (fun _ h => ?_) (fun _ h => ?_)
    · refine lv_aload_n hx hb dX11_says_16 rfl (lv_at hl 0 rfl) ?_
      refine lv_iconst (v := (-1)) hx hb dX11_says_17 (by decide) ?_
      obtain ⟨v6, σ5, h4, h⟩ := bd2_o h
      refine back_i (rest := []) hW (run_V S hW (ct_X11_refuse l G A σ _ (-1) h4) mi_X11_refuse lk_X11_108 (eC_0 G A σ) rfl rfl rfl hl (Nat.le_of_ble_eq_true rfl) dX11_says_18 ⟨Nat.le_of_ble_eq_true rfl, Nat.le_of_ble_eq_true rfl⟩ rfl rfl) (fun H locs hW => ?_)
      exact ret_is (wf := wC G A) hret h rfl hW dX11_says_21
    · refine lv_iload_n hx hb dX11_says_11 rfl (lv_at hl 2 rfl) ?_
      refine lv_iconst (v := 2) hx hb dX11_says_12 (by decide) ?_
      refine bc_le (tgt := 22) hx hb h dX11_says_13 (by decide) (fun _ h => ?_) (fun _ h => ?_)
      · refine lv_aload_n hx hb dX11_says_22 rfl (lv_at hl 0 rfl) ?_
        refine gC_X11_shelves S hW lk_X11_18 dX11_says_23 ?_
        refine lv_iload_n hx hb dX11_says_26 rfl (lv_at hl 1 rfl) ?_
        refine aC_shelf S hW h dX11_says_27 (fun j7 hj7 h => ?_)
        refine gC_X8_content hj7 S hW lk_X11_155 dX11_says_28 ?_
        refine nm_i h (fun v8 h => ?_)
        refine lv_istore_n (lv' := [(3, .int v8), (0, .ref (A 0)), (1, .int a1), (2, .int a2)]) hx hb dX11_says_31 rfl hl (by decide) rfl (fun ls hl => ?_)
        refine lv_iload_n hx hb dX11_says_32 rfl (lv_at hl 0 rfl) ?_
        refine lv_iconst (v := (-1)) hx hb dX11_says_33 (by decide) ?_
        refine bc_ne (tgt := 44) hx hb h dX11_says_34 (by decide) (fun _ h => ?_) (fun _ h => ?_)
        · refine lv_aload_n hx hb dX11_says_37 rfl (lv_at hl 1 rfl) ?_
          refine lv_bipush (v := (-3)) hx hb dX11_says_38 (by decide) ?_
          obtain ⟨v22, σ21, h20, h⟩ := bd2_o h
          refine back_i (rest := []) hW (run_V S hW (ct_X11_refuse l G A σ _ (-3) h20) mi_X11_refuse lk_X11_108 (eC_0 G A σ) rfl rfl rfl hl (Nat.le_of_ble_eq_true rfl) dX11_says_40 ⟨Nat.le_of_ble_eq_true rfl, Nat.le_of_ble_eq_true rfl⟩ rfl rfl) (fun H locs hW => ?_)
          exact ret_is (wf := wC G A) hret h rfl hW dX11_says_43
        · refine lv_aload_n hx hb dX11_says_44 rfl (lv_at hl 1 rfl) ?_
          refine gC_X11_table S hW lk_X11_12 dX11_says_45 ?_
          refine lv_iload_n hx hb dX11_says_48 rfl (lv_at hl 0 rfl) ?_
          refine back_i (rest := []) hW (run_V S hW (ct_X0_has l G A σ _ v8 rfl) mi_X0_has lk_X11_148 (eC_1 G A σ) rfl rfl rfl hl (Nat.le_of_ble_eq_true rfl) dX11_says_49 ⟨Nat.le_of_ble_eq_true rfl, Nat.le_of_ble_eq_true rfl⟩ rfl rfl) (fun H locs hW => ?_)
          refine bz_eq (tgt := 68) hx hb h dX11_says_52 (by decide) (fun _ h => ?_) (fun _ h => ?_)
          · refine lv_aload_n hx hb dX11_says_68 rfl (lv_at hl 1 rfl) ?_
            refine lv_bipush (v := (-2)) hx hb dX11_says_69 (by decide) ?_
            obtain ⟨v11, σ10, h9, h⟩ := bd2_o h
            refine back_i (rest := []) hW (run_V S hW (ct_X11_refuse l G A σ _ (-2) h9) mi_X11_refuse lk_X11_108 (eC_0 G A σ) rfl rfl rfl hl (Nat.le_of_ble_eq_true rfl) dX11_says_71 ⟨Nat.le_of_ble_eq_true rfl, Nat.le_of_ble_eq_true rfl⟩ rfl rfl) (fun H locs hW => ?_)
            exact ret_is (wf := wC G A) hret h rfl hW dX11_says_74
          · refine lv_aload_n hx hb dX11_says_55 rfl (lv_at hl 1 rfl) ?_
            refine gC_X11_table S hW lk_X11_12 dX11_says_56 ?_
            refine gC_X0_kinds S hW lk_X11_158 dX11_says_59 ?_
            refine lv_iload_n hx hb dX11_says_62 rfl (lv_at hl 0 rfl) ?_
            refine aC_6 S hW h dX11_says_63 (fun v12 _ h => ?_)
            refine lv_iload_n hx hb dX11_says_64 rfl (lv_at hl 3 rfl) ?_
            refine bc_ge (tgt := 75) hx hb h dX11_says_65 (by decide) (fun _ h => ?_) (fun _ h => ?_)
            · refine lv_iload_n hx hb dX11_says_75 rfl (lv_at hl 3 rfl) ?_
              refine bz_ne (tgt := 89) hx hb h dX11_says_76 (by decide) (fun _ h => ?_) (fun _ h => ?_)
              · refine lv_aload_n hx hb dX11_says_79 rfl (lv_at hl 1 rfl) ?_
                refine gC_X11_table S hW lk_X11_12 dX11_says_80 ?_
                refine gC_X0_costs S hW lk_X11_161 dX11_says_83 ?_
                refine lv_iload_n hx hb dX11_says_86 rfl (lv_at hl 0 rfl) ?_
                refine aC_5 S hW h dX11_says_87 (fun v16 _ h => ?_)
                exact ret_is (wf := wC G A) hret h rfl hW dX11_says_88
              · refine lv_iload_n hx hb dX11_says_89 rfl (lv_at hl 3 rfl) ?_
                refine lv_iconst (v := 1) hx hb dX11_says_90 (by decide) ?_
                refine bc_ne (tgt := 119) hx hb h dX11_says_91 (by decide) (fun _ h => ?_) (fun _ h => ?_)
                · refine lv_bipush (v := 100) hx hb dX11_says_94 (by decide) ?_
                  refine lv_aload_n hx hb dX11_says_96 rfl (lv_at hl 1 rfl) ?_
                  refine gC_X11_table S hW lk_X11_12 dX11_says_97 ?_
                  refine gC_X0_firsts S hW lk_X11_164 dX11_says_100 ?_
                  refine lv_iload_n hx hb dX11_says_103 rfl (lv_at hl 0 rfl) ?_
                  refine aC_7 S hW h dX11_says_104 (fun v14 _ h => ?_)
                  refine lv_imul hx hb dX11_says_105 ?_
                  refine lv_aload_n hx hb dX11_says_106 rfl (lv_at hl 1 rfl) ?_
                  refine gC_X11_table S hW lk_X11_12 dX11_says_107 ?_
                  refine gC_X0_seconds S hW lk_X11_167 dX11_says_110 ?_
                  refine lv_iload_n hx hb dX11_says_113 rfl (lv_at hl 0 rfl) ?_
                  refine aC_8 S hW h dX11_says_114 (fun v15 _ h => ?_)
                  refine lv_iadd hx hb dX11_says_115 ?_
                  refine lv_goto (tgt := 128) hx hb dX11_says_116 (by decide) ?_
                  exact ret_is (wf := wC G A) hret h rfl hW dX11_says_128
                · refine lv_aload_n hx hb dX11_says_119 rfl (lv_at hl 1 rfl) ?_
                  refine gC_X11_table S hW lk_X11_12 dX11_says_120 ?_
                  refine gC_X0_plainParts S hW lk_X11_170 dX11_says_123 ?_
                  refine lv_iload_n hx hb dX11_says_126 rfl (lv_at hl 0 rfl) ?_
                  refine aC_9 S hW h dX11_says_127 (fun v13 _ h => ?_)
                  exact ret_is (wf := wC G A) hret h rfl hW dX11_says_128
            · refine lv_aload_n hx hb dX11_says_68 rfl (lv_at hl 1 rfl) ?_
              refine lv_bipush (v := (-2)) hx hb dX11_says_69 (by decide) ?_
              obtain ⟨v19, σ18, h17, h⟩ := bd2_o h
              refine back_i (rest := []) hW (run_V S hW (ct_X11_refuse l G A σ _ (-2) h17) mi_X11_refuse lk_X11_108 (eC_0 G A σ) rfl rfl rfl hl (Nat.le_of_ble_eq_true rfl) dX11_says_71 ⟨Nat.le_of_ble_eq_true rfl, Nat.le_of_ble_eq_true rfl⟩ rfl rfl) (fun H locs hW => ?_)
              exact ret_is (wf := wC G A) hret h rfl hW dX11_says_74
      · refine lv_aload_n hx hb dX11_says_16 rfl (lv_at hl 0 rfl) ?_
        refine lv_iconst (v := (-1)) hx hb dX11_says_17 (by decide) ?_
        obtain ⟨v25, σ24, h23, h⟩ := bd2_o h
        refine back_i (rest := []) hW (run_V S hW (ct_X11_refuse l G A σ _ (-1) h23) mi_X11_refuse lk_X11_108 (eC_0 G A σ) rfl rfl rfl hl (Nat.le_of_ble_eq_true rfl) dX11_says_18 ⟨Nat.le_of_ble_eq_true rfl, Nat.le_of_ble_eq_true rfl⟩ rfl rfl) (fun H locs hW => ?_)
        exact ret_is (wf := wC G A) hret h rfl hW dX11_says_21
def rmX11_isFacts : Room := { frames := 0, cells := 0, slots := 0, locals := 0 }
def f_X11_isFacts (a0 : Int32) : Int32 := if (a0 &&& (-1073741824)) = 0 then 1 else 0
theorem z_X11_isFacts (a0 : Int32) : f_X11_isFacts a0 = 0 ∨ f_X11_isFacts a0 = 1 := by
  unfold f_X11_isFacts
  repeat' (first | split | exact Or.inl rfl | exact Or.inr rfl)
theorem ms_X11_isFacts : MSt yX11_isFacts cX11_isFacts 1 (some .boolean) 1 := ⟨sm_X11_isFacts, in_X11, co_X11_isFacts, by decide, by decide, by decide +kernel⟩
set_option maxRecDepth 100000 in
set_option maxHeartbeats 4000000 in
theorem ct_X11_isFacts (l : Launch) (G : EN) (A : Nat → Nat) (σ : SC) (sz : Nat) (a0 : Int32) {r0 : Int32} (h : f_X11_isFacts a0 = r0) : CT l yX11_isFacts cX11_isFacts 1 (some .boolean) rmX11_isFacts G sz [.int a0] (wC G A σ) (QI G (va_A (wC G A σ) sz) r0 (wC G A σ)) := by
  unfold f_X11_isFacts at h
  refine CI.intro (lv := [(0, .int a0)]) (by decide) (Nat.le_of_ble_eq_true rfl) rfl ?_
  intro p e s m args below meth c Q B S hret H locs ls hW hl
  have hx := S.1
  have hb := S.2.1
  refine lv_iload_n hx hb dX11_isFacts_0 rfl (lv_at hl 0 rfl) ?_
  refine lv_ldcw (v := (-1073741824)) hx hb S.2.2.2.1 (S.2.2.2.2 _ lk_X11_379) dX11_isFacts_1 ?_
  refine lv_iand hx hb dX11_isFacts_4 ?_
  refine bz_ne (tgt := 12) hx hb h dX11_isFacts_5 (by decide) (fun _ h => ?_) (fun _ h => ?_)
  · refine lv_iconst (v := 1) hx hb dX11_isFacts_8 (by decide) ?_
    refine lv_goto (tgt := 13) hx hb dX11_isFacts_9 (by decide) ?_
    exact hret H locs _ ls _ h (nar_z (Or.inr rfl)) hW dX11_isFacts_13
  · refine lv_iconst (v := 0) hx hb dX11_isFacts_12 (by decide) ?_
    exact hret H locs _ ls _ h (nar_z (Or.inl rfl)) hW dX11_isFacts_13
def rmX11_forgetSearch : Room := { frames := 1, cells := 0, slots := 0, locals := 20 }
def f_X11_forgetSearch (σ : SC) : Option SC := lt (si σ 16 0) (fun σ1 => bd (f_X4_forget σ1) (fun σ3 => some σ3))
theorem mi_X11_forgetSearch : MI yX11_forgetSearch cX11_forgetSearch 1 none 0 := ⟨im_X11_forgetSearch, se_X11_forgetSearch, in_X11, co_X11_forgetSearch, by decide, by decide, by decide +kernel⟩
set_option maxRecDepth 100000 in
set_option maxHeartbeats 4000000 in
theorem ct_X11_forgetSearch (l : Launch) (G : EN) (A : Nat → Nat) (σ : SC) (sz : Nat) {σ0 : SC} (h : f_X11_forgetSearch σ = some σ0) : CT l yX11_forgetSearch cX11_forgetSearch 1 none rmX11_forgetSearch G sz [.ref (A 0)] (wC G A σ) (QV G (va_A (wC G A σ) sz) (wC G A σ0)) := by
  unfold f_X11_forgetSearch at h
  refine CV.intro (lv := [(0, .ref (A 0))]) (by decide) (Nat.le_of_ble_eq_true rfl) rfl ?_
  intro p e s m args below meth c Q B S hret H locs ls hW hl
  have hx := S.1
  have hb := S.2.1
  refine lv_aload_n hx hb dX11_forgetSearch_0 rfl (lv_at hl 0 rfl) ?_
  refine gC_X11_reach S hW lk_X11_43 dX11_forgetSearch_1 ?_
  refine lv_iconst (v := 0) hx hb dX11_forgetSearch_4 (by decide) ?_
  refine pC_X6_fresh (Or.inl rfl) S hW lk_X11_389 dX11_forgetSearch_5 (fun σ1 H locs eσ1 hW => ?_)
  have h := lt_at eσ1 h
  refine lv_aload_n hx hb dX11_forgetSearch_8 rfl (lv_at hl 0 rfl) ?_
  refine gC_X11_paths S hW lk_X11_52 dX11_forgetSearch_9 ?_
  obtain ⟨σ3, h2, h⟩ := bd_o h
  refine back_v (rest := []) hW (run_V S hW (ct_X4_forget l G A σ1 _ h2) mi_X4_forget lk_X11_392 (eC_20 G A σ1) rfl rfl rfl hl (Nat.le_of_ble_eq_true rfl) dX11_forgetSearch_12 ⟨Nat.le_of_ble_eq_true rfl, Nat.le_of_ble_eq_true rfl⟩ rfl rfl) (fun H locs hW => ?_)
  exact ret_vs (wf := wC G A) hret h hW dX11_forgetSearch_15
def rmX11_action : Room := { frames := 2, cells := 0, slots := 0, locals := 40 }
def f_X11_action (σ : SC) (a1 : Int32) (a2 : Int32) (a3 : Int32) (a4 : Int32) : Option (Int32 × SC) := if (f_X11_isFacts a1) = 0 then bd2 (f_X11_refuse σ (-6)) (fun v3 σ2 => some (v3, σ2)) else if (f_X11_isFacts a2) = 0 then bd2 (f_X11_refuse σ (-6)) (fun v6 σ5 => some (v6, σ5)) else if (f_X11_isFacts a3) = 0 then bd2 (f_X11_refuse σ (-6)) (fun v9 σ8 => some (v9, σ8)) else if a4 < 1 then bd2 (f_X11_refuse σ (-6)) (fun v12 σ11 => some (v12, σ11)) else if a4 ≤ 99 then if (gi σ 6) < 24 then bd (f_X0_write σ (gi σ 6) a1 a2 a3 a4) (fun σ14 => lt (si σ14 6 ((gi σ14 6) + 1)) (fun σ15 => bd (f_X11_forgetSearch σ15) (fun σ17 => some (((gi σ17 6) - 1), σ17)))) else bd2 (f_X11_refuse σ (-7)) (fun v20 σ19 => some (v20, σ19)) else bd2 (f_X11_refuse σ (-6)) (fun v23 σ22 => some (v23, σ22))
theorem mi_X11_action : MI yX11_action cX11_action 5 (some .int) 4 := ⟨im_X11_action, se_X11_action, in_X11, co_X11_action, by decide, by decide, by decide +kernel⟩
set_option maxRecDepth 100000 in
set_option maxHeartbeats 4000000 in
theorem ct_X11_action (l : Launch) (G : EN) (A : Nat → Nat) (σ : SC) (sz : Nat) (a1 : Int32) (a2 : Int32) (a3 : Int32) (a4 : Int32) {r0 : Int32} {σ0 : SC} (h : f_X11_action σ a1 a2 a3 a4 = some (r0, σ0)) : CT l yX11_action cX11_action 5 (some .int) rmX11_action G sz [.ref (A 0), .int a1, .int a2, .int a3, .int a4] (wC G A σ) (QI G (va_A (wC G A σ) sz) r0 (wC G A σ0)) := by
  unfold f_X11_action at h
  refine CI.intro (lv := [(0, .ref (A 0)), (1, .int a1), (2, .int a2), (3, .int a3), (4, .int a4)]) (by decide) (Nat.le_of_ble_eq_true rfl) rfl ?_
  intro p e s m args below meth c Q B S hret H locs ls hW hl
  have hx := S.1
  have hb := S.2.1
  refine lv_iload_n hx hb dX11_action_0 rfl (lv_at hl 1 rfl) ?_
  refine back_i (rest := []) hW (run_S S hW (ct_X11_isFacts l G A σ _ a1 rfl) ms_X11_isFacts lk_X11_173 rfl rfl hl (Nat.le_of_ble_eq_true rfl) dX11_action_1 ⟨Nat.le_of_ble_eq_true rfl, Nat.le_of_ble_eq_true rfl⟩ rfl rfl) (fun H locs hW => ?_)
  refine bz_eq (tgt := 34) hx hb h dX11_action_4 (by decide) (fun _ h => ?_) (fun _ h => ?_)
  · refine lv_aload_n hx hb dX11_action_34 rfl (lv_at hl 0 rfl) ?_
    refine lv_bipush (v := (-6)) hx hb dX11_action_35 (by decide) ?_
    obtain ⟨v3, σ2, h1, h⟩ := bd2_o h
    refine back_i (rest := []) hW (run_V S hW (ct_X11_refuse l G A σ _ (-6) h1) mi_X11_refuse lk_X11_108 (eC_0 G A σ) rfl rfl rfl hl (Nat.le_of_ble_eq_true rfl) dX11_action_37 ⟨Nat.le_of_ble_eq_true rfl, Nat.le_of_ble_eq_true rfl⟩ rfl rfl) (fun H locs hW => ?_)
    exact ret_is (wf := wC G A) hret h rfl hW dX11_action_40
  · refine lv_iload_n hx hb dX11_action_7 rfl (lv_at hl 2 rfl) ?_
    refine back_i (rest := []) hW (run_S S hW (ct_X11_isFacts l G A σ _ a2 rfl) ms_X11_isFacts lk_X11_173 rfl rfl hl (Nat.le_of_ble_eq_true rfl) dX11_action_8 ⟨Nat.le_of_ble_eq_true rfl, Nat.le_of_ble_eq_true rfl⟩ rfl rfl) (fun H locs hW => ?_)
    refine bz_eq (tgt := 34) hx hb h dX11_action_11 (by decide) (fun _ h => ?_) (fun _ h => ?_)
    · refine lv_aload_n hx hb dX11_action_34 rfl (lv_at hl 0 rfl) ?_
      refine lv_bipush (v := (-6)) hx hb dX11_action_35 (by decide) ?_
      obtain ⟨v6, σ5, h4, h⟩ := bd2_o h
      refine back_i (rest := []) hW (run_V S hW (ct_X11_refuse l G A σ _ (-6) h4) mi_X11_refuse lk_X11_108 (eC_0 G A σ) rfl rfl rfl hl (Nat.le_of_ble_eq_true rfl) dX11_action_37 ⟨Nat.le_of_ble_eq_true rfl, Nat.le_of_ble_eq_true rfl⟩ rfl rfl) (fun H locs hW => ?_)
      exact ret_is (wf := wC G A) hret h rfl hW dX11_action_40
    · refine lv_iload_n hx hb dX11_action_14 rfl (lv_at hl 3 rfl) ?_
      refine back_i (rest := []) hW (run_S S hW (ct_X11_isFacts l G A σ _ a3 rfl) ms_X11_isFacts lk_X11_173 rfl rfl hl (Nat.le_of_ble_eq_true rfl) dX11_action_15 ⟨Nat.le_of_ble_eq_true rfl, Nat.le_of_ble_eq_true rfl⟩ rfl rfl) (fun H locs hW => ?_)
      refine bz_eq (tgt := 34) hx hb h dX11_action_18 (by decide) (fun _ h => ?_) (fun _ h => ?_)
      · refine lv_aload_n hx hb dX11_action_34 rfl (lv_at hl 0 rfl) ?_
        refine lv_bipush (v := (-6)) hx hb dX11_action_35 (by decide) ?_
        obtain ⟨v9, σ8, h7, h⟩ := bd2_o h
        refine back_i (rest := []) hW (run_V S hW (ct_X11_refuse l G A σ _ (-6) h7) mi_X11_refuse lk_X11_108 (eC_0 G A σ) rfl rfl rfl hl (Nat.le_of_ble_eq_true rfl) dX11_action_37 ⟨Nat.le_of_ble_eq_true rfl, Nat.le_of_ble_eq_true rfl⟩ rfl rfl) (fun H locs hW => ?_)
        exact ret_is (wf := wC G A) hret h rfl hW dX11_action_40
      · refine lv_iload hx hb dX11_action_21 (lv_at hl 4 rfl) ?_
        refine lv_iconst (v := 1) hx hb dX11_action_23 (by decide) ?_
        refine bc_lt (tgt := 34) hx hb h dX11_action_24 (by decide) (fun _ h => ?_) (fun _ h => ?_)
        · refine lv_aload_n hx hb dX11_action_34 rfl (lv_at hl 0 rfl) ?_
          refine lv_bipush (v := (-6)) hx hb dX11_action_35 (by decide) ?_
          obtain ⟨v12, σ11, h10, h⟩ := bd2_o h
          refine back_i (rest := []) hW (run_V S hW (ct_X11_refuse l G A σ _ (-6) h10) mi_X11_refuse lk_X11_108 (eC_0 G A σ) rfl rfl rfl hl (Nat.le_of_ble_eq_true rfl) dX11_action_37 ⟨Nat.le_of_ble_eq_true rfl, Nat.le_of_ble_eq_true rfl⟩ rfl rfl) (fun H locs hW => ?_)
          exact ret_is (wf := wC G A) hret h rfl hW dX11_action_40
        · refine lv_iload hx hb dX11_action_27 (lv_at hl 4 rfl) ?_
          refine lv_bipush (v := 99) hx hb dX11_action_29 (by decide) ?_
          refine bc_le (tgt := 41) hx hb h dX11_action_31 (by decide) (fun _ h => ?_) (fun _ h => ?_)
          · refine lv_aload_n hx hb dX11_action_41 rfl (lv_at hl 0 rfl) ?_
            refine gC_X11_table S hW lk_X11_12 dX11_action_42 ?_
            refine gC_X0_count S hW lk_X11_176 dX11_action_45 ?_
            refine lv_bipush (v := 24) hx hb dX11_action_48 (by decide) ?_
            refine bc_lt (tgt := 60) hx hb h dX11_action_50 (by decide) (fun _ h => ?_) (fun _ h => ?_)
            · refine lv_aload_n hx hb dX11_action_60 rfl (lv_at hl 0 rfl) ?_
              refine gC_X11_table S hW lk_X11_12 dX11_action_61 ?_
              refine lv_aload_n hx hb dX11_action_64 rfl (lv_at hl 0 rfl) ?_
              refine gC_X11_table S hW lk_X11_12 dX11_action_65 ?_
              refine gC_X0_count S hW lk_X11_176 dX11_action_68 ?_
              refine lv_iload_n hx hb dX11_action_71 rfl (lv_at hl 1 rfl) ?_
              refine lv_iload_n hx hb dX11_action_72 rfl (lv_at hl 2 rfl) ?_
              refine lv_iload_n hx hb dX11_action_73 rfl (lv_at hl 3 rfl) ?_
              refine lv_iload hx hb dX11_action_74 (lv_at hl 4 rfl) ?_
              obtain ⟨σ14, h13, h⟩ := bd_o h
              refine back_v (rest := []) hW (run_V S hW (ct_X0_write l G A σ _ (gi σ 6) a1 a2 a3 a4 h13) mi_X0_write lk_X11_179 (eC_1 G A σ) rfl rfl rfl hl (Nat.le_of_ble_eq_true rfl) dX11_action_76 ⟨Nat.le_of_ble_eq_true rfl, Nat.le_of_ble_eq_true rfl⟩ rfl rfl) (fun H locs hW => ?_)
              refine lv_aload_n hx hb dX11_action_79 rfl (lv_at hl 0 rfl) ?_
              refine gC_X11_table S hW lk_X11_12 dX11_action_80 ?_
              refine lv_dup hx hb dX11_action_83 rfl ?_
              refine gC_X0_count S hW lk_X11_176 dX11_action_84 ?_
              refine lv_iconst (v := 1) hx hb dX11_action_87 (by decide) ?_
              refine lv_iadd hx hb dX11_action_88 ?_
              refine pC_X0_count S hW lk_X11_176 dX11_action_89 (fun σ15 H locs eσ15 hW => ?_)
              have h := lt_at eσ15 h
              refine lv_aload_n hx hb dX11_action_92 rfl (lv_at hl 0 rfl) ?_
              obtain ⟨σ17, h16, h⟩ := bd_o h
              refine back_v (rest := []) hW (run_V S hW (ct_X11_forgetSearch l G A σ15 _ h16) mi_X11_forgetSearch lk_X11_183 (eC_0 G A σ15) rfl rfl rfl hl (Nat.le_of_ble_eq_true rfl) dX11_action_93 ⟨Nat.le_of_ble_eq_true rfl, Nat.le_of_ble_eq_true rfl⟩ rfl rfl) (fun H locs hW => ?_)
              refine lv_aload_n hx hb dX11_action_96 rfl (lv_at hl 0 rfl) ?_
              refine gC_X11_table S hW lk_X11_12 dX11_action_97 ?_
              refine gC_X0_count S hW lk_X11_176 dX11_action_100 ?_
              refine lv_iconst (v := 1) hx hb dX11_action_103 (by decide) ?_
              refine lv_isub hx hb dX11_action_104 ?_
              exact ret_is (wf := wC G A) hret h rfl hW dX11_action_105
            · refine lv_aload_n hx hb dX11_action_53 rfl (lv_at hl 0 rfl) ?_
              refine lv_bipush (v := (-7)) hx hb dX11_action_54 (by decide) ?_
              obtain ⟨v20, σ19, h18, h⟩ := bd2_o h
              refine back_i (rest := []) hW (run_V S hW (ct_X11_refuse l G A σ _ (-7) h18) mi_X11_refuse lk_X11_108 (eC_0 G A σ) rfl rfl rfl hl (Nat.le_of_ble_eq_true rfl) dX11_action_56 ⟨Nat.le_of_ble_eq_true rfl, Nat.le_of_ble_eq_true rfl⟩ rfl rfl) (fun H locs hW => ?_)
              exact ret_is (wf := wC G A) hret h rfl hW dX11_action_59
          · refine lv_aload_n hx hb dX11_action_34 rfl (lv_at hl 0 rfl) ?_
            refine lv_bipush (v := (-6)) hx hb dX11_action_35 (by decide) ?_
            obtain ⟨v23, σ22, h21, h⟩ := bd2_o h
            refine back_i (rest := []) hW (run_V S hW (ct_X11_refuse l G A σ _ (-6) h21) mi_X11_refuse lk_X11_108 (eC_0 G A σ) rfl rfl rfl hl (Nat.le_of_ble_eq_true rfl) dX11_action_37 ⟨Nat.le_of_ble_eq_true rfl, Nat.le_of_ble_eq_true rfl⟩ rfl rfl) (fun H locs hW => ?_)
            exact ret_is (wf := wC G A) hret h rfl hW dX11_action_40
def rmX11_macro : Room := { frames := 2, cells := 0, slots := 0, locals := 52 }
def f_X11_macro (σ : SC) (a1 : Int32) (a2 : Int32) : Option (Int32 × SC) := if (f_X0_has σ a1) = 0 then bd2 (f_X11_refuse σ (-1)) (fun v3 σ2 => some (v3, σ2)) else if (f_X0_has σ a2) = 0 then bd2 (f_X11_refuse σ (-1)) (fun v19 σ18 => some (v19, σ18)) else bd (f_X0_canJoin σ a1 a2) (fun v5 => if v5 = 0 then bd2 (f_X11_refuse σ (-6)) (fun v16 σ15 => some (v16, σ15)) else if (gi σ 6) < 24 then bd (f_X0_writeJoined σ (gi σ 6) a1 a2) (fun σ7 => lt (si σ7 6 ((gi σ7 6) + 1)) (fun σ8 => bd (f_X11_forgetSearch σ8) (fun σ10 => some (((gi σ10 6) - 1), σ10)))) else bd2 (f_X11_refuse σ (-7)) (fun v13 σ12 => some (v13, σ12)))
theorem mi_X11_macro : MI yX11_macro cX11_macro 3 (some .int) 2 := ⟨im_X11_macro, se_X11_macro, in_X11, co_X11_macro, by decide, by decide, by decide +kernel⟩
set_option maxRecDepth 100000 in
set_option maxHeartbeats 4000000 in
theorem ct_X11_macro (l : Launch) (G : EN) (A : Nat → Nat) (σ : SC) (sz : Nat) (a1 : Int32) (a2 : Int32) {r0 : Int32} {σ0 : SC} (h : f_X11_macro σ a1 a2 = some (r0, σ0)) : CT l yX11_macro cX11_macro 3 (some .int) rmX11_macro G sz [.ref (A 0), .int a1, .int a2] (wC G A σ) (QI G (va_A (wC G A σ) sz) r0 (wC G A σ0)) := by
  unfold f_X11_macro at h
  refine CI.intro (lv := [(0, .ref (A 0)), (1, .int a1), (2, .int a2)]) (by decide) (Nat.le_of_ble_eq_true rfl) rfl ?_
  intro p e s m args below meth c Q B S hret H locs ls hW hl
  have hx := S.1
  have hb := S.2.1
  refine lv_aload_n hx hb dX11_macro_0 rfl (lv_at hl 0 rfl) ?_
  refine gC_X11_table S hW lk_X11_12 dX11_macro_1 ?_
  refine lv_iload_n hx hb dX11_macro_4 rfl (lv_at hl 1 rfl) ?_
  refine back_i (rest := []) hW (run_V S hW (ct_X0_has l G A σ _ a1 rfl) mi_X0_has lk_X11_148 (eC_1 G A σ) rfl rfl rfl hl (Nat.le_of_ble_eq_true rfl) dX11_macro_5 ⟨Nat.le_of_ble_eq_true rfl, Nat.le_of_ble_eq_true rfl⟩ rfl rfl) (fun H locs hW => ?_)
  refine bz_eq (tgt := 22) hx hb h dX11_macro_8 (by decide) (fun _ h => ?_) (fun _ h => ?_)
  · refine lv_aload_n hx hb dX11_macro_22 rfl (lv_at hl 0 rfl) ?_
    refine lv_iconst (v := (-1)) hx hb dX11_macro_23 (by decide) ?_
    obtain ⟨v3, σ2, h1, h⟩ := bd2_o h
    refine back_i (rest := []) hW (run_V S hW (ct_X11_refuse l G A σ _ (-1) h1) mi_X11_refuse lk_X11_108 (eC_0 G A σ) rfl rfl rfl hl (Nat.le_of_ble_eq_true rfl) dX11_macro_24 ⟨Nat.le_of_ble_eq_true rfl, Nat.le_of_ble_eq_true rfl⟩ rfl rfl) (fun H locs hW => ?_)
    exact ret_is (wf := wC G A) hret h rfl hW dX11_macro_27
  · refine lv_aload_n hx hb dX11_macro_11 rfl (lv_at hl 0 rfl) ?_
    refine gC_X11_table S hW lk_X11_12 dX11_macro_12 ?_
    refine lv_iload_n hx hb dX11_macro_15 rfl (lv_at hl 2 rfl) ?_
    refine back_i (rest := []) hW (run_V S hW (ct_X0_has l G A σ _ a2 rfl) mi_X0_has lk_X11_148 (eC_1 G A σ) rfl rfl rfl hl (Nat.le_of_ble_eq_true rfl) dX11_macro_16 ⟨Nat.le_of_ble_eq_true rfl, Nat.le_of_ble_eq_true rfl⟩ rfl rfl) (fun H locs hW => ?_)
    refine bz_ne (tgt := 28) hx hb h dX11_macro_19 (by decide) (fun _ h => ?_) (fun _ h => ?_)
    · refine lv_aload_n hx hb dX11_macro_22 rfl (lv_at hl 0 rfl) ?_
      refine lv_iconst (v := (-1)) hx hb dX11_macro_23 (by decide) ?_
      obtain ⟨v19, σ18, h17, h⟩ := bd2_o h
      refine back_i (rest := []) hW (run_V S hW (ct_X11_refuse l G A σ _ (-1) h17) mi_X11_refuse lk_X11_108 (eC_0 G A σ) rfl rfl rfl hl (Nat.le_of_ble_eq_true rfl) dX11_macro_24 ⟨Nat.le_of_ble_eq_true rfl, Nat.le_of_ble_eq_true rfl⟩ rfl rfl) (fun H locs hW => ?_)
      exact ret_is (wf := wC G A) hret h rfl hW dX11_macro_27
    · refine lv_aload_n hx hb dX11_macro_28 rfl (lv_at hl 0 rfl) ?_
      refine gC_X11_table S hW lk_X11_12 dX11_macro_29 ?_
      refine lv_iload_n hx hb dX11_macro_32 rfl (lv_at hl 1 rfl) ?_
      refine lv_iload_n hx hb dX11_macro_33 rfl (lv_at hl 2 rfl) ?_
      obtain ⟨v5, h4, h⟩ := bd_o h
      refine back_i (rest := []) hW (run_V S hW (ct_X0_canJoin l G A σ _ a1 a2 h4) mi_X0_canJoin lk_X11_186 (eC_1 G A σ) rfl rfl rfl hl (Nat.le_of_ble_eq_true rfl) dX11_macro_34 ⟨Nat.le_of_ble_eq_true rfl, Nat.le_of_ble_eq_true rfl⟩ rfl rfl) (fun H locs hW => ?_)
      refine bz_ne (tgt := 47) hx hb h dX11_macro_37 (by decide) (fun _ h => ?_) (fun _ h => ?_)
      · refine lv_aload_n hx hb dX11_macro_40 rfl (lv_at hl 0 rfl) ?_
        refine lv_bipush (v := (-6)) hx hb dX11_macro_41 (by decide) ?_
        obtain ⟨v16, σ15, h14, h⟩ := bd2_o h
        refine back_i (rest := []) hW (run_V S hW (ct_X11_refuse l G A σ _ (-6) h14) mi_X11_refuse lk_X11_108 (eC_0 G A σ) rfl rfl rfl hl (Nat.le_of_ble_eq_true rfl) dX11_macro_43 ⟨Nat.le_of_ble_eq_true rfl, Nat.le_of_ble_eq_true rfl⟩ rfl rfl) (fun H locs hW => ?_)
        exact ret_is (wf := wC G A) hret h rfl hW dX11_macro_46
      · refine lv_aload_n hx hb dX11_macro_47 rfl (lv_at hl 0 rfl) ?_
        refine gC_X11_table S hW lk_X11_12 dX11_macro_48 ?_
        refine gC_X0_count S hW lk_X11_176 dX11_macro_51 ?_
        refine lv_bipush (v := 24) hx hb dX11_macro_54 (by decide) ?_
        refine bc_lt (tgt := 66) hx hb h dX11_macro_56 (by decide) (fun _ h => ?_) (fun _ h => ?_)
        · refine lv_aload_n hx hb dX11_macro_66 rfl (lv_at hl 0 rfl) ?_
          refine gC_X11_table S hW lk_X11_12 dX11_macro_67 ?_
          refine lv_aload_n hx hb dX11_macro_70 rfl (lv_at hl 0 rfl) ?_
          refine gC_X11_table S hW lk_X11_12 dX11_macro_71 ?_
          refine gC_X0_count S hW lk_X11_176 dX11_macro_74 ?_
          refine lv_iload_n hx hb dX11_macro_77 rfl (lv_at hl 1 rfl) ?_
          refine lv_iload_n hx hb dX11_macro_78 rfl (lv_at hl 2 rfl) ?_
          obtain ⟨σ7, h6, h⟩ := bd_o h
          refine back_v (rest := []) hW (run_V S hW (ct_X0_writeJoined l G A σ _ (gi σ 6) a1 a2 h6) mi_X0_writeJoined lk_X11_189 (eC_1 G A σ) rfl rfl rfl hl (Nat.le_of_ble_eq_true rfl) dX11_macro_79 ⟨Nat.le_of_ble_eq_true rfl, Nat.le_of_ble_eq_true rfl⟩ rfl rfl) (fun H locs hW => ?_)
          refine lv_aload_n hx hb dX11_macro_82 rfl (lv_at hl 0 rfl) ?_
          refine gC_X11_table S hW lk_X11_12 dX11_macro_83 ?_
          refine lv_dup hx hb dX11_macro_86 rfl ?_
          refine gC_X0_count S hW lk_X11_176 dX11_macro_87 ?_
          refine lv_iconst (v := 1) hx hb dX11_macro_90 (by decide) ?_
          refine lv_iadd hx hb dX11_macro_91 ?_
          refine pC_X0_count S hW lk_X11_176 dX11_macro_92 (fun σ8 H locs eσ8 hW => ?_)
          have h := lt_at eσ8 h
          refine lv_aload_n hx hb dX11_macro_95 rfl (lv_at hl 0 rfl) ?_
          obtain ⟨σ10, h9, h⟩ := bd_o h
          refine back_v (rest := []) hW (run_V S hW (ct_X11_forgetSearch l G A σ8 _ h9) mi_X11_forgetSearch lk_X11_183 (eC_0 G A σ8) rfl rfl rfl hl (Nat.le_of_ble_eq_true rfl) dX11_macro_96 ⟨Nat.le_of_ble_eq_true rfl, Nat.le_of_ble_eq_true rfl⟩ rfl rfl) (fun H locs hW => ?_)
          refine lv_aload_n hx hb dX11_macro_99 rfl (lv_at hl 0 rfl) ?_
          refine gC_X11_table S hW lk_X11_12 dX11_macro_100 ?_
          refine gC_X0_count S hW lk_X11_176 dX11_macro_103 ?_
          refine lv_iconst (v := 1) hx hb dX11_macro_106 (by decide) ?_
          refine lv_isub hx hb dX11_macro_107 ?_
          exact ret_is (wf := wC G A) hret h rfl hW dX11_macro_108
        · refine lv_aload_n hx hb dX11_macro_59 rfl (lv_at hl 0 rfl) ?_
          refine lv_bipush (v := (-7)) hx hb dX11_macro_60 (by decide) ?_
          obtain ⟨v13, σ12, h11, h⟩ := bd2_o h
          refine back_i (rest := []) hW (run_V S hW (ct_X11_refuse l G A σ _ (-7) h11) mi_X11_refuse lk_X11_108 (eC_0 G A σ) rfl rfl rfl hl (Nat.le_of_ble_eq_true rfl) dX11_macro_62 ⟨Nat.le_of_ble_eq_true rfl, Nat.le_of_ble_eq_true rfl⟩ rfl rfl) (fun H locs hW => ?_)
          exact ret_is (wf := wC G A) hret h rfl hW dX11_macro_65
def rmX11_read : Room := { frames := 16, cells := 0, slots := 0, locals := 492 }
def f_X11_read (n : Nat) (σ : SC) (a1 : Int32) : Option (Int32 × SC) := bd (f_X11_refusalOfRow σ a1) (fun v2 => if v2 = 0 then ld (fun k => k) 8 a1 (fun j3 => bd (f_X9_readAll n σ j3 (gi σ 1) (gi σ 2) (gi σ 3)) (fun σ5 => lt (si σ5 5 (gi σ5 24)) (fun σ6 => if (gi σ6 5) = (-1) then lt (si σ6 1 (gi σ6 27)) (fun σ7 => lt (si σ7 2 (gi σ7 28)) (fun σ8 => lt (si σ8 3 (gi σ8 29)) (fun σ9 => lt (si σ9 6 ((gi σ9 6) + (gi σ9 26))) (fun σ10 => bd (f_X11_forgetSearch σ10) (fun σ12 => some ((gi σ12 25), σ12)))))) else bd2 (f_X11_refuse σ6 (-6)) (fun v15 σ14 => some (v15, σ14))))) else bd2 (f_X11_refuse σ v2) (fun v18 σ17 => some (v18, σ17)))
theorem mi_X11_read : MI yX11_read cX11_read 3 (some .int) 1 := ⟨im_X11_read, se_X11_read, in_X11, co_X11_read, by decide, by decide, by decide +kernel⟩
set_option maxRecDepth 100000 in
set_option maxHeartbeats 4000000 in
theorem ct_X11_read (l : Launch) (n : Nat) (G : EN) (A : Nat → Nat) (σ : SC) (sz : Nat) (a1 : Int32) {r0 : Int32} {σ0 : SC} (h : f_X11_read n σ a1 = some (r0, σ0)) : CT l yX11_read cX11_read 3 (some .int) rmX11_read G sz [.ref (A 0), .int a1] (wC G A σ) (QI G (va_A (wC G A σ) sz) r0 (wC G A σ0)) := by
  unfold f_X11_read at h
  refine CI.intro (lv := [(0, .ref (A 0)), (1, .int a1)]) (by decide) (Nat.le_of_ble_eq_true rfl) rfl ?_
  intro p e s m args below meth c Q B S hret H locs ls hW hl
  have hx := S.1
  have hb := S.2.1
  refine lv_aload_n hx hb dX11_read_0 rfl (lv_at hl 0 rfl) ?_
  refine lv_iload_n hx hb dX11_read_1 rfl (lv_at hl 1 rfl) ?_
  obtain ⟨v2, h1, h⟩ := bd_o h
  refine back_i (rest := []) hW (run_V S hW (ct_X11_refusalOfRow l G A σ _ a1 h1) mi_X11_refusalOfRow lk_X11_116 (eC_0 G A σ) rfl rfl rfl hl (Nat.le_of_ble_eq_true rfl) dX11_read_2 ⟨Nat.le_of_ble_eq_true rfl, Nat.le_of_ble_eq_true rfl⟩ rfl rfl) (fun H locs hW => ?_)
  refine lv_istore_n (lv' := [(2, .int v2), (0, .ref (A 0)), (1, .int a1)]) hx hb dX11_read_5 rfl hl (by decide) rfl (fun ls hl => ?_)
  refine lv_iload_n hx hb dX11_read_6 rfl (lv_at hl 0 rfl) ?_
  refine bz_eq (tgt := 16) hx hb h dX11_read_7 (by decide) (fun _ h => ?_) (fun _ h => ?_)
  · refine lv_aload_n hx hb dX11_read_16 rfl (lv_at hl 1 rfl) ?_
    refine gC_X11_reader S hW lk_X11_59 dX11_read_17 ?_
    refine lv_aload_n hx hb dX11_read_20 rfl (lv_at hl 1 rfl) ?_
    refine gC_X11_shelves S hW lk_X11_18 dX11_read_21 ?_
    refine lv_iload_n hx hb dX11_read_24 rfl (lv_at hl 2 rfl) ?_
    refine aC_shelf S hW h dX11_read_25 (fun j3 hj3 h => ?_)
    refine lv_aload_n hx hb dX11_read_26 rfl (lv_at hl 1 rfl) ?_
    refine gC_X11_startSet S hW lk_X11_88 dX11_read_27 ?_
    refine lv_aload_n hx hb dX11_read_30 rfl (lv_at hl 1 rfl) ?_
    refine gC_X11_goalSet S hW lk_X11_91 dX11_read_31 ?_
    refine lv_aload_n hx hb dX11_read_34 rfl (lv_at hl 1 rfl) ?_
    refine gC_X11_nowState S hW lk_X11_94 dX11_read_35 ?_
    obtain ⟨σ5, h4, h⟩ := bd_o h
    refine back_v (rest := []) hW (run_V S hW (ct_X9_readAll l n G A σ _ j3 (gi σ 1) (gi σ 2) (gi σ 3) hj3 h4) mi_X9_readAll lk_X11_193 (eC_25 G A σ) rfl rfl rfl hl (Nat.le_of_ble_eq_true rfl) dX11_read_38 ⟨Nat.le_of_ble_eq_true rfl, Nat.le_of_ble_eq_true rfl⟩ rfl rfl) (fun H locs hW => ?_)
    refine lv_aload_n hx hb dX11_read_41 rfl (lv_at hl 1 rfl) ?_
    refine lv_aload_n hx hb dX11_read_42 rfl (lv_at hl 1 rfl) ?_
    refine gC_X11_reader S hW lk_X11_59 dX11_read_43 ?_
    refine gC_X9_faultAt S hW lk_X11_197 dX11_read_46 ?_
    refine pC_X11_faultPlace S hW lk_X11_100 dX11_read_49 (fun σ6 H locs eσ6 hW => ?_)
    have h := lt_at eσ6 h
    refine lv_aload_n hx hb dX11_read_52 rfl (lv_at hl 1 rfl) ?_
    refine gC_X11_faultPlace S hW lk_X11_100 dX11_read_53 ?_
    refine lv_iconst (v := (-1)) hx hb dX11_read_56 (by decide) ?_
    refine bc_eq (tgt := 67) hx hb h dX11_read_57 (by decide) (fun _ h => ?_) (fun _ h => ?_)
    · refine lv_aload_n hx hb dX11_read_67 rfl (lv_at hl 1 rfl) ?_
      refine lv_aload_n hx hb dX11_read_68 rfl (lv_at hl 1 rfl) ?_
      refine gC_X11_reader S hW lk_X11_59 dX11_read_69 ?_
      refine gC_X9_startRead S hW lk_X11_200 dX11_read_72 ?_
      refine pC_X11_startSet S hW lk_X11_88 dX11_read_75 (fun σ7 H locs eσ7 hW => ?_)
      have h := lt_at eσ7 h
      refine lv_aload_n hx hb dX11_read_78 rfl (lv_at hl 1 rfl) ?_
      refine lv_aload_n hx hb dX11_read_79 rfl (lv_at hl 1 rfl) ?_
      refine gC_X11_reader S hW lk_X11_59 dX11_read_80 ?_
      refine gC_X9_goalRead S hW lk_X11_203 dX11_read_83 ?_
      refine pC_X11_goalSet S hW lk_X11_91 dX11_read_86 (fun σ8 H locs eσ8 hW => ?_)
      have h := lt_at eσ8 h
      refine lv_aload_n hx hb dX11_read_89 rfl (lv_at hl 1 rfl) ?_
      refine lv_aload_n hx hb dX11_read_90 rfl (lv_at hl 1 rfl) ?_
      refine gC_X11_reader S hW lk_X11_59 dX11_read_91 ?_
      refine gC_X9_nowRead S hW lk_X11_206 dX11_read_94 ?_
      refine pC_X11_nowState S hW lk_X11_94 dX11_read_97 (fun σ9 H locs eσ9 hW => ?_)
      have h := lt_at eσ9 h
      refine lv_aload_n hx hb dX11_read_100 rfl (lv_at hl 1 rfl) ?_
      refine gC_X11_table S hW lk_X11_12 dX11_read_101 ?_
      refine lv_dup hx hb dX11_read_104 rfl ?_
      refine gC_X0_count S hW lk_X11_176 dX11_read_105 ?_
      refine lv_aload_n hx hb dX11_read_108 rfl (lv_at hl 1 rfl) ?_
      refine gC_X11_reader S hW lk_X11_59 dX11_read_109 ?_
      refine gC_X9_staged S hW lk_X11_209 dX11_read_112 ?_
      refine lv_iadd hx hb dX11_read_115 ?_
      refine pC_X0_count S hW lk_X11_176 dX11_read_116 (fun σ10 H locs eσ10 hW => ?_)
      have h := lt_at eσ10 h
      refine lv_aload_n hx hb dX11_read_119 rfl (lv_at hl 1 rfl) ?_
      obtain ⟨σ12, h11, h⟩ := bd_o h
      refine back_v (rest := []) hW (run_V S hW (ct_X11_forgetSearch l G A σ10 _ h11) mi_X11_forgetSearch lk_X11_183 (eC_0 G A σ10) rfl rfl rfl hl (Nat.le_of_ble_eq_true rfl) dX11_read_120 ⟨Nat.le_of_ble_eq_true rfl, Nat.le_of_ble_eq_true rfl⟩ rfl rfl) (fun H locs hW => ?_)
      refine lv_aload_n hx hb dX11_read_123 rfl (lv_at hl 1 rfl) ?_
      refine gC_X11_reader S hW lk_X11_59 dX11_read_124 ?_
      refine gC_X9_items S hW lk_X11_212 dX11_read_127 ?_
      exact ret_is (wf := wC G A) hret h rfl hW dX11_read_130
    · refine lv_aload_n hx hb dX11_read_60 rfl (lv_at hl 1 rfl) ?_
      refine lv_bipush (v := (-6)) hx hb dX11_read_61 (by decide) ?_
      obtain ⟨v15, σ14, h13, h⟩ := bd2_o h
      refine back_i (rest := []) hW (run_V S hW (ct_X11_refuse l G A σ6 _ (-6) h13) mi_X11_refuse lk_X11_108 (eC_0 G A σ6) rfl rfl rfl hl (Nat.le_of_ble_eq_true rfl) dX11_read_63 ⟨Nat.le_of_ble_eq_true rfl, Nat.le_of_ble_eq_true rfl⟩ rfl rfl) (fun H locs hW => ?_)
      exact ret_is (wf := wC G A) hret h rfl hW dX11_read_66
  · refine lv_aload_n hx hb dX11_read_10 rfl (lv_at hl 1 rfl) ?_
    refine lv_iload_n hx hb dX11_read_11 rfl (lv_at hl 0 rfl) ?_
    obtain ⟨v18, σ17, h16, h⟩ := bd2_o h
    refine back_i (rest := []) hW (run_V S hW (ct_X11_refuse l G A σ _ v2 h16) mi_X11_refuse lk_X11_108 (eC_0 G A σ) rfl rfl rfl hl (Nat.le_of_ble_eq_true rfl) dX11_read_12 ⟨Nat.le_of_ble_eq_true rfl, Nat.le_of_ble_eq_true rfl⟩ rfl rfl) (fun H locs hW => ?_)
    exact ret_is (wf := wC G A) hret h rfl hW dX11_read_15
def rmX11_fault : Room := { frames := 0, cells := 0, slots := 0, locals := 0 }
def f_X11_fault (σ : SC) : Int32 := (gi σ 5)
theorem mi_X11_fault : MI yX11_fault cX11_fault 1 (some .int) 0 := ⟨im_X11_fault, se_X11_fault, in_X11, co_X11_fault, by decide, by decide, by decide +kernel⟩
set_option maxRecDepth 100000 in
set_option maxHeartbeats 4000000 in
theorem ct_X11_fault (l : Launch) (G : EN) (A : Nat → Nat) (σ : SC) (sz : Nat) {r0 : Int32} (h : f_X11_fault σ = r0) : CT l yX11_fault cX11_fault 1 (some .int) rmX11_fault G sz [.ref (A 0)] (wC G A σ) (QI G (va_A (wC G A σ) sz) r0 (wC G A σ)) := by
  unfold f_X11_fault at h
  refine CI.intro (lv := [(0, .ref (A 0))]) (by decide) (Nat.le_of_ble_eq_true rfl) rfl ?_
  intro p e s m args below meth c Q B S hret H locs ls hW hl
  have hx := S.1
  have hb := S.2.1
  refine lv_aload_n hx hb dX11_fault_0 rfl (lv_at hl 0 rfl) ?_
  refine gC_X11_faultPlace S hW lk_X11_100 dX11_fault_1 ?_
  exact hret H locs _ ls _ h rfl hW dX11_fault_4
def rmX11_put : Room := { frames := 2, cells := 0, slots := 0, locals := 40 }
def f_X11_put (σ : SC) (a1 : Int32) (a2 : Int32) : Option (Int32 × SC) := if a1 < 0 then bd2 (f_X11_refuse σ (-5)) (fun v3 σ2 => some (v3, σ2)) else if a1 ≤ 2 then if (f_X11_isFacts a2) = 0 then bd2 (f_X11_refuse σ (-6)) (fun v18 σ17 => some (v18, σ17)) else if a1 = 0 then lt (gi σ 1) (fun v12 => lt (si σ 1 a2) (fun σ13 => bd (f_X11_forgetSearch σ13) (fun σ15 => some (v12, σ15)))) else if a1 = 1 then lt (gi σ 2) (fun v8 => lt (si σ 2 a2) (fun σ9 => bd (f_X11_forgetSearch σ9) (fun σ11 => some (v8, σ11)))) else lt (gi σ 3) (fun v4 => lt (si σ 3 a2) (fun σ5 => bd (f_X11_forgetSearch σ5) (fun σ7 => some (v4, σ7)))) else bd2 (f_X11_refuse σ (-5)) (fun v21 σ20 => some (v21, σ20))
theorem mi_X11_put : MI yX11_put cX11_put 4 (some .int) 2 := ⟨im_X11_put, se_X11_put, in_X11, co_X11_put, by decide, by decide, by decide +kernel⟩
set_option maxRecDepth 100000 in
set_option maxHeartbeats 4000000 in
theorem ct_X11_put (l : Launch) (G : EN) (A : Nat → Nat) (σ : SC) (sz : Nat) (a1 : Int32) (a2 : Int32) {r0 : Int32} {σ0 : SC} (h : f_X11_put σ a1 a2 = some (r0, σ0)) : CT l yX11_put cX11_put 4 (some .int) rmX11_put G sz [.ref (A 0), .int a1, .int a2] (wC G A σ) (QI G (va_A (wC G A σ) sz) r0 (wC G A σ0)) := by
  unfold f_X11_put at h
  refine CI.intro (lv := [(0, .ref (A 0)), (1, .int a1), (2, .int a2)]) (by decide) (Nat.le_of_ble_eq_true rfl) rfl ?_
  intro p e s m args below meth c Q B S hret H locs ls hW hl
  have hx := S.1
  have hb := S.2.1
  refine lv_iload_n hx hb dX11_put_0 rfl (lv_at hl 1 rfl) ?_
  refine bz_lt (tgt := 9) hx hb h dX11_put_1 (by decide) (fun _ h => ?_) (fun _ h => ?_)
  · refine lv_aload_n hx hb dX11_put_9 rfl (lv_at hl 0 rfl) ?_
    refine lv_bipush (v := (-5)) hx hb dX11_put_10 (by decide) ?_
    obtain ⟨v3, σ2, h1, h⟩ := bd2_o h
    refine back_i (rest := []) hW (run_V S hW (ct_X11_refuse l G A σ _ (-5) h1) mi_X11_refuse lk_X11_108 (eC_0 G A σ) rfl rfl rfl hl (Nat.le_of_ble_eq_true rfl) dX11_put_12 ⟨Nat.le_of_ble_eq_true rfl, Nat.le_of_ble_eq_true rfl⟩ rfl rfl) (fun H locs hW => ?_)
    exact ret_is (wf := wC G A) hret h rfl hW dX11_put_15
  · refine lv_iload_n hx hb dX11_put_4 rfl (lv_at hl 1 rfl) ?_
    refine lv_iconst (v := 2) hx hb dX11_put_5 (by decide) ?_
    refine bc_le (tgt := 16) hx hb h dX11_put_6 (by decide) (fun _ h => ?_) (fun _ h => ?_)
    · refine lv_iload_n hx hb dX11_put_16 rfl (lv_at hl 2 rfl) ?_
      refine back_i (rest := []) hW (run_S S hW (ct_X11_isFacts l G A σ _ a2 rfl) ms_X11_isFacts lk_X11_173 rfl rfl hl (Nat.le_of_ble_eq_true rfl) dX11_put_17 ⟨Nat.le_of_ble_eq_true rfl, Nat.le_of_ble_eq_true rfl⟩ rfl rfl) (fun H locs hW => ?_)
      refine bz_ne (tgt := 30) hx hb h dX11_put_20 (by decide) (fun _ h => ?_) (fun _ h => ?_)
      · refine lv_aload_n hx hb dX11_put_23 rfl (lv_at hl 0 rfl) ?_
        refine lv_bipush (v := (-6)) hx hb dX11_put_24 (by decide) ?_
        obtain ⟨v18, σ17, h16, h⟩ := bd2_o h
        refine back_i (rest := []) hW (run_V S hW (ct_X11_refuse l G A σ _ (-6) h16) mi_X11_refuse lk_X11_108 (eC_0 G A σ) rfl rfl rfl hl (Nat.le_of_ble_eq_true rfl) dX11_put_26 ⟨Nat.le_of_ble_eq_true rfl, Nat.le_of_ble_eq_true rfl⟩ rfl rfl) (fun H locs hW => ?_)
        exact ret_is (wf := wC G A) hret h rfl hW dX11_put_29
      · refine lv_iload_n hx hb dX11_put_30 rfl (lv_at hl 1 rfl) ?_
        refine bz_ne (tgt := 47) hx hb h dX11_put_31 (by decide) (fun _ h => ?_) (fun _ h => ?_)
        · refine lv_aload_n hx hb dX11_put_34 rfl (lv_at hl 0 rfl) ?_
          refine gC_X11_startSet S hW lk_X11_88 dX11_put_35 ?_
          refine nm_i h (fun v12 h => ?_)
          refine lv_istore_n (lv' := [(3, .int v12), (0, .ref (A 0)), (1, .int a1), (2, .int a2)]) hx hb dX11_put_38 rfl hl (by decide) rfl (fun ls hl => ?_)
          refine lv_aload_n hx hb dX11_put_39 rfl (lv_at hl 1 rfl) ?_
          refine lv_iload_n hx hb dX11_put_40 rfl (lv_at hl 3 rfl) ?_
          refine pC_X11_startSet S hW lk_X11_88 dX11_put_41 (fun σ13 H locs eσ13 hW => ?_)
          have h := lt_at eσ13 h
          refine lv_goto (tgt := 75) hx hb dX11_put_44 (by decide) ?_
          refine lv_aload_n hx hb dX11_put_75 rfl (lv_at hl 1 rfl) ?_
          obtain ⟨σ15, h14, h⟩ := bd_o h
          refine back_v (rest := []) hW (run_V S hW (ct_X11_forgetSearch l G A σ13 _ h14) mi_X11_forgetSearch lk_X11_183 (eC_0 G A σ13) rfl rfl rfl hl (Nat.le_of_ble_eq_true rfl) dX11_put_76 ⟨Nat.le_of_ble_eq_true rfl, Nat.le_of_ble_eq_true rfl⟩ rfl rfl) (fun H locs hW => ?_)
          refine lv_iload_n hx hb dX11_put_79 rfl (lv_at hl 0 rfl) ?_
          exact ret_is (wf := wC G A) hret h rfl hW dX11_put_80
        · refine lv_iload_n hx hb dX11_put_47 rfl (lv_at hl 1 rfl) ?_
          refine lv_iconst (v := 1) hx hb dX11_put_48 (by decide) ?_
          refine bc_ne (tgt := 65) hx hb h dX11_put_49 (by decide) (fun _ h => ?_) (fun _ h => ?_)
          · refine lv_aload_n hx hb dX11_put_52 rfl (lv_at hl 0 rfl) ?_
            refine gC_X11_goalSet S hW lk_X11_91 dX11_put_53 ?_
            refine nm_i h (fun v8 h => ?_)
            refine lv_istore_n (lv' := [(3, .int v8), (0, .ref (A 0)), (1, .int a1), (2, .int a2)]) hx hb dX11_put_56 rfl hl (by decide) rfl (fun ls hl => ?_)
            refine lv_aload_n hx hb dX11_put_57 rfl (lv_at hl 1 rfl) ?_
            refine lv_iload_n hx hb dX11_put_58 rfl (lv_at hl 3 rfl) ?_
            refine pC_X11_goalSet S hW lk_X11_91 dX11_put_59 (fun σ9 H locs eσ9 hW => ?_)
            have h := lt_at eσ9 h
            refine lv_goto (tgt := 75) hx hb dX11_put_62 (by decide) ?_
            refine lv_aload_n hx hb dX11_put_75 rfl (lv_at hl 1 rfl) ?_
            obtain ⟨σ11, h10, h⟩ := bd_o h
            refine back_v (rest := []) hW (run_V S hW (ct_X11_forgetSearch l G A σ9 _ h10) mi_X11_forgetSearch lk_X11_183 (eC_0 G A σ9) rfl rfl rfl hl (Nat.le_of_ble_eq_true rfl) dX11_put_76 ⟨Nat.le_of_ble_eq_true rfl, Nat.le_of_ble_eq_true rfl⟩ rfl rfl) (fun H locs hW => ?_)
            refine lv_iload_n hx hb dX11_put_79 rfl (lv_at hl 0 rfl) ?_
            exact ret_is (wf := wC G A) hret h rfl hW dX11_put_80
          · refine lv_aload_n hx hb dX11_put_65 rfl (lv_at hl 0 rfl) ?_
            refine gC_X11_nowState S hW lk_X11_94 dX11_put_66 ?_
            refine nm_i h (fun v4 h => ?_)
            refine lv_istore_n (lv' := [(3, .int v4), (0, .ref (A 0)), (1, .int a1), (2, .int a2)]) hx hb dX11_put_69 rfl hl (by decide) rfl (fun ls hl => ?_)
            refine lv_aload_n hx hb dX11_put_70 rfl (lv_at hl 1 rfl) ?_
            refine lv_iload_n hx hb dX11_put_71 rfl (lv_at hl 3 rfl) ?_
            refine pC_X11_nowState S hW lk_X11_94 dX11_put_72 (fun σ5 H locs eσ5 hW => ?_)
            have h := lt_at eσ5 h
            refine lv_aload_n hx hb dX11_put_75 rfl (lv_at hl 1 rfl) ?_
            obtain ⟨σ7, h6, h⟩ := bd_o h
            refine back_v (rest := []) hW (run_V S hW (ct_X11_forgetSearch l G A σ5 _ h6) mi_X11_forgetSearch lk_X11_183 (eC_0 G A σ5) rfl rfl rfl hl (Nat.le_of_ble_eq_true rfl) dX11_put_76 ⟨Nat.le_of_ble_eq_true rfl, Nat.le_of_ble_eq_true rfl⟩ rfl rfl) (fun H locs hW => ?_)
            refine lv_iload_n hx hb dX11_put_79 rfl (lv_at hl 0 rfl) ?_
            exact ret_is (wf := wC G A) hret h rfl hW dX11_put_80
    · refine lv_aload_n hx hb dX11_put_9 rfl (lv_at hl 0 rfl) ?_
      refine lv_bipush (v := (-5)) hx hb dX11_put_10 (by decide) ?_
      obtain ⟨v21, σ20, h19, h⟩ := bd2_o h
      refine back_i (rest := []) hW (run_V S hW (ct_X11_refuse l G A σ _ (-5) h19) mi_X11_refuse lk_X11_108 (eC_0 G A σ) rfl rfl rfl hl (Nat.le_of_ble_eq_true rfl) dX11_put_12 ⟨Nat.le_of_ble_eq_true rfl, Nat.le_of_ble_eq_true rfl⟩ rfl rfl) (fun H locs hW => ?_)
      exact ret_is (wf := wC G A) hret h rfl hW dX11_put_15
def rmX11_actionOf : Room := { frames := 1, cells := 0, slots := 0, locals := 22 }
def f_X11_actionOf (σ : SC) (a1 : Int32) (a2 : Int32) : Option (Int32 × SC) := if (f_X0_has σ a1) = 0 then bd2 (f_X11_refuse σ (-5)) (fun v13 σ12 => some (v13, σ12)) else if a2 = 0 then ld (ga σ 4) 24 a1 (fun v1 => some (v1, σ)) else if a2 = 1 then ld (ga σ 0) 24 a1 (fun v2 => some (v2, σ)) else if a2 = 2 then ld (ga σ 1) 24 a1 (fun v3 => some (v3, σ)) else if a2 = 3 then ld (ga σ 2) 24 a1 (fun v4 => some (v4, σ)) else if a2 = 4 then ld (ga σ 3) 24 a1 (fun v5 => some (v5, σ)) else if a2 = 5 then ld (ga σ 5) 24 a1 (fun v6 => some (v6, σ)) else if a2 = 6 then ld (ga σ 6) 24 a1 (fun v7 => some (v7, σ)) else bd2 (f_X11_refuse σ (-5)) (fun v10 σ9 => some (v10, σ9))
theorem mi_X11_actionOf : MI yX11_actionOf cX11_actionOf 3 (some .int) 2 := ⟨im_X11_actionOf, se_X11_actionOf, in_X11, co_X11_actionOf, by decide, by decide, by decide +kernel⟩
set_option maxRecDepth 100000 in
set_option maxHeartbeats 4000000 in
theorem ct_X11_actionOf (l : Launch) (G : EN) (A : Nat → Nat) (σ : SC) (sz : Nat) (a1 : Int32) (a2 : Int32) {r0 : Int32} {σ0 : SC} (h : f_X11_actionOf σ a1 a2 = some (r0, σ0)) : CT l yX11_actionOf cX11_actionOf 3 (some .int) rmX11_actionOf G sz [.ref (A 0), .int a1, .int a2] (wC G A σ) (QI G (va_A (wC G A σ) sz) r0 (wC G A σ0)) := by
  unfold f_X11_actionOf at h
  refine CI.intro (lv := [(0, .ref (A 0)), (1, .int a1), (2, .int a2)]) (by decide) (Nat.le_of_ble_eq_true rfl) rfl ?_
  intro p e s m args below meth c Q B S hret H locs ls hW hl
  have hx := S.1
  have hb := S.2.1
  refine lv_aload_n hx hb dX11_actionOf_0 rfl (lv_at hl 0 rfl) ?_
  refine gC_X11_table S hW lk_X11_12 dX11_actionOf_1 ?_
  refine lv_iload_n hx hb dX11_actionOf_4 rfl (lv_at hl 1 rfl) ?_
  refine back_i (rest := []) hW (run_V S hW (ct_X0_has l G A σ _ a1 rfl) mi_X0_has lk_X11_148 (eC_1 G A σ) rfl rfl rfl hl (Nat.le_of_ble_eq_true rfl) dX11_actionOf_5 ⟨Nat.le_of_ble_eq_true rfl, Nat.le_of_ble_eq_true rfl⟩ rfl rfl) (fun H locs hW => ?_)
  refine bz_ne (tgt := 18) hx hb h dX11_actionOf_8 (by decide) (fun _ h => ?_) (fun _ h => ?_)
  · refine lv_aload_n hx hb dX11_actionOf_11 rfl (lv_at hl 0 rfl) ?_
    refine lv_bipush (v := (-5)) hx hb dX11_actionOf_12 (by decide) ?_
    obtain ⟨v13, σ12, h11, h⟩ := bd2_o h
    refine back_i (rest := []) hW (run_V S hW (ct_X11_refuse l G A σ _ (-5) h11) mi_X11_refuse lk_X11_108 (eC_0 G A σ) rfl rfl rfl hl (Nat.le_of_ble_eq_true rfl) dX11_actionOf_14 ⟨Nat.le_of_ble_eq_true rfl, Nat.le_of_ble_eq_true rfl⟩ rfl rfl) (fun H locs hW => ?_)
    exact ret_is (wf := wC G A) hret h rfl hW dX11_actionOf_17
  · refine lv_iload_n hx hb dX11_actionOf_18 rfl (lv_at hl 2 rfl) ?_
    refine b_if h (fun hs19_0 h => ?_) (fun hs19_0 h => ?_)
    · refine lv_tableIn (tgt := 60) (off := 41) hx hb dX11_actionOf_19 (by rw [hs19_0]; decide) (by rw [hs19_0]; decide) (by rw [hs19_0]; rfl) (by decide) ?_
      refine lv_aload_n hx hb dX11_actionOf_60 rfl (lv_at hl 0 rfl) ?_
      refine gC_X11_table S hW lk_X11_12 dX11_actionOf_61 ?_
      refine gC_X0_kinds S hW lk_X11_158 dX11_actionOf_64 ?_
      refine lv_iload_n hx hb dX11_actionOf_67 rfl (lv_at hl 1 rfl) ?_
      refine aC_6 S hW h dX11_actionOf_68 (fun v1 _ h => ?_)
      exact ret_is (wf := wC G A) hret h rfl hW dX11_actionOf_69
    refine b_if h (fun hs19_1 h => ?_) (fun hs19_1 h => ?_)
    · refine lv_tableIn (tgt := 70) (off := 51) hx hb dX11_actionOf_19 (by rw [hs19_1]; decide) (by rw [hs19_1]; decide) (by rw [hs19_1]; rfl) (by decide) ?_
      refine lv_aload_n hx hb dX11_actionOf_70 rfl (lv_at hl 0 rfl) ?_
      refine gC_X11_table S hW lk_X11_12 dX11_actionOf_71 ?_
      refine gC_X0_needs S hW lk_X11_215 dX11_actionOf_74 ?_
      refine lv_iload_n hx hb dX11_actionOf_77 rfl (lv_at hl 1 rfl) ?_
      refine aC_2 S hW h dX11_actionOf_78 (fun v2 _ h => ?_)
      exact ret_is (wf := wC G A) hret h rfl hW dX11_actionOf_79
    refine b_if h (fun hs19_2 h => ?_) (fun hs19_2 h => ?_)
    · refine lv_tableIn (tgt := 80) (off := 61) hx hb dX11_actionOf_19 (by rw [hs19_2]; decide) (by rw [hs19_2]; decide) (by rw [hs19_2]; rfl) (by decide) ?_
      refine lv_aload_n hx hb dX11_actionOf_80 rfl (lv_at hl 0 rfl) ?_
      refine gC_X11_table S hW lk_X11_12 dX11_actionOf_81 ?_
      refine gC_X0_makes S hW lk_X11_218 dX11_actionOf_84 ?_
      refine lv_iload_n hx hb dX11_actionOf_87 rfl (lv_at hl 1 rfl) ?_
      refine aC_3 S hW h dX11_actionOf_88 (fun v3 _ h => ?_)
      exact ret_is (wf := wC G A) hret h rfl hW dX11_actionOf_89
    refine b_if h (fun hs19_3 h => ?_) (fun hs19_3 h => ?_)
    · refine lv_tableIn (tgt := 90) (off := 71) hx hb dX11_actionOf_19 (by rw [hs19_3]; decide) (by rw [hs19_3]; decide) (by rw [hs19_3]; rfl) (by decide) ?_
      refine lv_aload_n hx hb dX11_actionOf_90 rfl (lv_at hl 0 rfl) ?_
      refine gC_X11_table S hW lk_X11_12 dX11_actionOf_91 ?_
      refine gC_X0_undoes S hW lk_X11_221 dX11_actionOf_94 ?_
      refine lv_iload_n hx hb dX11_actionOf_97 rfl (lv_at hl 1 rfl) ?_
      refine aC_4 S hW h dX11_actionOf_98 (fun v4 _ h => ?_)
      exact ret_is (wf := wC G A) hret h rfl hW dX11_actionOf_99
    refine b_if h (fun hs19_4 h => ?_) (fun hs19_4 h => ?_)
    · refine lv_tableIn (tgt := 100) (off := 81) hx hb dX11_actionOf_19 (by rw [hs19_4]; decide) (by rw [hs19_4]; decide) (by rw [hs19_4]; rfl) (by decide) ?_
      refine lv_aload_n hx hb dX11_actionOf_100 rfl (lv_at hl 0 rfl) ?_
      refine gC_X11_table S hW lk_X11_12 dX11_actionOf_101 ?_
      refine gC_X0_costs S hW lk_X11_161 dX11_actionOf_104 ?_
      refine lv_iload_n hx hb dX11_actionOf_107 rfl (lv_at hl 1 rfl) ?_
      refine aC_5 S hW h dX11_actionOf_108 (fun v5 _ h => ?_)
      exact ret_is (wf := wC G A) hret h rfl hW dX11_actionOf_109
    refine b_if h (fun hs19_5 h => ?_) (fun hs19_5 h => ?_)
    · refine lv_tableIn (tgt := 110) (off := 91) hx hb dX11_actionOf_19 (by rw [hs19_5]; decide) (by rw [hs19_5]; decide) (by rw [hs19_5]; rfl) (by decide) ?_
      refine lv_aload_n hx hb dX11_actionOf_110 rfl (lv_at hl 0 rfl) ?_
      refine gC_X11_table S hW lk_X11_12 dX11_actionOf_111 ?_
      refine gC_X0_firsts S hW lk_X11_164 dX11_actionOf_114 ?_
      refine lv_iload_n hx hb dX11_actionOf_117 rfl (lv_at hl 1 rfl) ?_
      refine aC_7 S hW h dX11_actionOf_118 (fun v6 _ h => ?_)
      exact ret_is (wf := wC G A) hret h rfl hW dX11_actionOf_119
    refine b_if h (fun hs19_6 h => ?_) (fun hs19_6 h => ?_)
    · refine lv_tableIn (tgt := 120) (off := 101) hx hb dX11_actionOf_19 (by rw [hs19_6]; decide) (by rw [hs19_6]; decide) (by rw [hs19_6]; rfl) (by decide) ?_
      refine lv_aload_n hx hb dX11_actionOf_120 rfl (lv_at hl 0 rfl) ?_
      refine gC_X11_table S hW lk_X11_12 dX11_actionOf_121 ?_
      refine gC_X0_seconds S hW lk_X11_167 dX11_actionOf_124 ?_
      refine lv_iload_n hx hb dX11_actionOf_127 rfl (lv_at hl 1 rfl) ?_
      refine aC_8 S hW h dX11_actionOf_128 (fun v7 _ h => ?_)
      exact ret_is (wf := wC G A) hret h rfl hW dX11_actionOf_129
    refine lv_tableOut (tgt := 130) hx hb dX11_actionOf_19 (sw_out 0 6 _ (fun k h1 h2 => by have := lv_neT hs19_0 (a := 0) (by decide) ; have := lv_neT hs19_1 (a := 1) (by decide) ; have := lv_neT hs19_2 (a := 2) (by decide) ; have := lv_neT hs19_3 (a := 3) (by decide) ; have := lv_neT hs19_4 (a := 4) (by decide) ; have := lv_neT hs19_5 (a := 5) (by decide) ; have := lv_neT hs19_6 (a := 6) (by decide); omega)) (by decide) ?_
    refine lv_aload_n hx hb dX11_actionOf_130 rfl (lv_at hl 0 rfl) ?_
    refine lv_bipush (v := (-5)) hx hb dX11_actionOf_131 (by decide) ?_
    obtain ⟨v10, σ9, h8, h⟩ := bd2_o h
    refine back_i (rest := []) hW (run_V S hW (ct_X11_refuse l G A σ _ (-5) h8) mi_X11_refuse lk_X11_108 (eC_0 G A σ) rfl rfl rfl hl (Nat.le_of_ble_eq_true rfl) dX11_actionOf_133 ⟨Nat.le_of_ble_eq_true rfl, Nat.le_of_ble_eq_true rfl⟩ rfl rfl) (fun H locs hW => ?_)
    exact ret_is (wf := wC G A) hret h rfl hW dX11_actionOf_136
def rmX11_may : Room := { frames := 2, cells := 0, slots := 0, locals := 45 }
def f_X11_may (n : Nat) (σ : SC) (a1 : Int32) : Option (Int32 × SC) := if (f_X11_isFacts a1) = 0 then bd2 (f_X11_refuse σ (-6)) (fun v3 σ2 => some (v3, σ2)) else bd (f_X0_allowedIn n σ a1) (fun v5 => some (v5, σ))
theorem mi_X11_may : MI yX11_may cX11_may 2 (some .int) 1 := ⟨im_X11_may, se_X11_may, in_X11, co_X11_may, by decide, by decide, by decide +kernel⟩
set_option maxRecDepth 100000 in
set_option maxHeartbeats 4000000 in
theorem ct_X11_may (l : Launch) (n : Nat) (G : EN) (A : Nat → Nat) (σ : SC) (sz : Nat) (a1 : Int32) {r0 : Int32} {σ0 : SC} (h : f_X11_may n σ a1 = some (r0, σ0)) : CT l yX11_may cX11_may 2 (some .int) rmX11_may G sz [.ref (A 0), .int a1] (wC G A σ) (QI G (va_A (wC G A σ) sz) r0 (wC G A σ0)) := by
  unfold f_X11_may at h
  refine CI.intro (lv := [(0, .ref (A 0)), (1, .int a1)]) (by decide) (Nat.le_of_ble_eq_true rfl) rfl ?_
  intro p e s m args below meth c Q B S hret H locs ls hW hl
  have hx := S.1
  have hb := S.2.1
  refine lv_iload_n hx hb dX11_may_0 rfl (lv_at hl 1 rfl) ?_
  refine back_i (rest := []) hW (run_S S hW (ct_X11_isFacts l G A σ _ a1 rfl) ms_X11_isFacts lk_X11_173 rfl rfl hl (Nat.le_of_ble_eq_true rfl) dX11_may_1 ⟨Nat.le_of_ble_eq_true rfl, Nat.le_of_ble_eq_true rfl⟩ rfl rfl) (fun H locs hW => ?_)
  refine bz_eq (tgt := 18) hx hb h dX11_may_4 (by decide) (fun _ h => ?_) (fun _ h => ?_)
  · refine lv_aload_n hx hb dX11_may_18 rfl (lv_at hl 0 rfl) ?_
    refine lv_bipush (v := (-6)) hx hb dX11_may_19 (by decide) ?_
    obtain ⟨v3, σ2, h1, h⟩ := bd2_o h
    refine back_i (rest := []) hW (run_V S hW (ct_X11_refuse l G A σ _ (-6) h1) mi_X11_refuse lk_X11_108 (eC_0 G A σ) rfl rfl rfl hl (Nat.le_of_ble_eq_true rfl) dX11_may_21 ⟨Nat.le_of_ble_eq_true rfl, Nat.le_of_ble_eq_true rfl⟩ rfl rfl) (fun H locs hW => ?_)
    exact ret_is (wf := wC G A) hret h rfl hW dX11_may_24
  · refine lv_aload_n hx hb dX11_may_7 rfl (lv_at hl 0 rfl) ?_
    refine gC_X11_table S hW lk_X11_12 dX11_may_8 ?_
    refine lv_iload_n hx hb dX11_may_11 rfl (lv_at hl 1 rfl) ?_
    obtain ⟨v5, h4, h⟩ := bd_o h
    refine back_i (rest := []) hW (run_V S hW (ct_X0_allowedIn l n G A σ _ a1 h4) mi_X0_allowedIn lk_X11_224 (eC_1 G A σ) rfl rfl rfl hl (Nat.le_of_ble_eq_true rfl) dX11_may_12 ⟨Nat.le_of_ble_eq_true rfl, Nat.le_of_ble_eq_true rfl⟩ rfl rfl) (fun H locs hW => ?_)
    refine lv_goto (tgt := 24) hx hb dX11_may_15 (by decide) ?_
    exact ret_is (wf := wC G A) hret h rfl hW dX11_may_24
def rmX11_then : Room := { frames := 1, cells := 0, slots := 0, locals := 22 }
def f_X11_then (σ : SC) (a1 : Int32) (a2 : Int32) : Option (Int32 × SC) := if (f_X0_has σ a2) = 0 then bd2 (f_X11_refuse σ (-1)) (fun v13 σ12 => some (v13, σ12)) else if (f_X11_isFacts a1) = 0 then bd2 (f_X11_refuse σ (-6)) (fun v3 σ2 => some (v3, σ2)) else bd (f_X0_isAllowed σ a1 a2) (fun v5 => if v5 = 0 then bd2 (f_X11_refuse σ (-6)) (fun v10 σ9 => some (v10, σ9)) else bd (f_X0_after σ a1 a2) (fun v7 => some (v7, σ)))
theorem mi_X11_then : MI yX11_then cX11_then 3 (some .int) 2 := ⟨im_X11_then, se_X11_then, in_X11, co_X11_then, by decide, by decide, by decide +kernel⟩
set_option maxRecDepth 100000 in
set_option maxHeartbeats 4000000 in
theorem ct_X11_then (l : Launch) (G : EN) (A : Nat → Nat) (σ : SC) (sz : Nat) (a1 : Int32) (a2 : Int32) {r0 : Int32} {σ0 : SC} (h : f_X11_then σ a1 a2 = some (r0, σ0)) : CT l yX11_then cX11_then 3 (some .int) rmX11_then G sz [.ref (A 0), .int a1, .int a2] (wC G A σ) (QI G (va_A (wC G A σ) sz) r0 (wC G A σ0)) := by
  unfold f_X11_then at h
  refine CI.intro (lv := [(0, .ref (A 0)), (1, .int a1), (2, .int a2)]) (by decide) (Nat.le_of_ble_eq_true rfl) rfl ?_
  intro p e s m args below meth c Q B S hret H locs ls hW hl
  have hx := S.1
  have hb := S.2.1
  refine lv_aload_n hx hb dX11_then_0 rfl (lv_at hl 0 rfl) ?_
  refine gC_X11_table S hW lk_X11_12 dX11_then_1 ?_
  refine lv_iload_n hx hb dX11_then_4 rfl (lv_at hl 2 rfl) ?_
  refine back_i (rest := []) hW (run_V S hW (ct_X0_has l G A σ _ a2 rfl) mi_X0_has lk_X11_148 (eC_1 G A σ) rfl rfl rfl hl (Nat.le_of_ble_eq_true rfl) dX11_then_5 ⟨Nat.le_of_ble_eq_true rfl, Nat.le_of_ble_eq_true rfl⟩ rfl rfl) (fun H locs hW => ?_)
  refine bz_ne (tgt := 17) hx hb h dX11_then_8 (by decide) (fun _ h => ?_) (fun _ h => ?_)
  · refine lv_aload_n hx hb dX11_then_11 rfl (lv_at hl 0 rfl) ?_
    refine lv_iconst (v := (-1)) hx hb dX11_then_12 (by decide) ?_
    obtain ⟨v13, σ12, h11, h⟩ := bd2_o h
    refine back_i (rest := []) hW (run_V S hW (ct_X11_refuse l G A σ _ (-1) h11) mi_X11_refuse lk_X11_108 (eC_0 G A σ) rfl rfl rfl hl (Nat.le_of_ble_eq_true rfl) dX11_then_13 ⟨Nat.le_of_ble_eq_true rfl, Nat.le_of_ble_eq_true rfl⟩ rfl rfl) (fun H locs hW => ?_)
    exact ret_is (wf := wC G A) hret h rfl hW dX11_then_16
  · refine lv_iload_n hx hb dX11_then_17 rfl (lv_at hl 1 rfl) ?_
    refine back_i (rest := []) hW (run_S S hW (ct_X11_isFacts l G A σ _ a1 rfl) ms_X11_isFacts lk_X11_173 rfl rfl hl (Nat.le_of_ble_eq_true rfl) dX11_then_18 ⟨Nat.le_of_ble_eq_true rfl, Nat.le_of_ble_eq_true rfl⟩ rfl rfl) (fun H locs hW => ?_)
    refine bz_eq (tgt := 36) hx hb h dX11_then_21 (by decide) (fun _ h => ?_) (fun _ h => ?_)
    · refine lv_aload_n hx hb dX11_then_36 rfl (lv_at hl 0 rfl) ?_
      refine lv_bipush (v := (-6)) hx hb dX11_then_37 (by decide) ?_
      obtain ⟨v3, σ2, h1, h⟩ := bd2_o h
      refine back_i (rest := []) hW (run_V S hW (ct_X11_refuse l G A σ _ (-6) h1) mi_X11_refuse lk_X11_108 (eC_0 G A σ) rfl rfl rfl hl (Nat.le_of_ble_eq_true rfl) dX11_then_39 ⟨Nat.le_of_ble_eq_true rfl, Nat.le_of_ble_eq_true rfl⟩ rfl rfl) (fun H locs hW => ?_)
      exact ret_is (wf := wC G A) hret h rfl hW dX11_then_42
    · refine lv_aload_n hx hb dX11_then_24 rfl (lv_at hl 0 rfl) ?_
      refine gC_X11_table S hW lk_X11_12 dX11_then_25 ?_
      refine lv_iload_n hx hb dX11_then_28 rfl (lv_at hl 1 rfl) ?_
      refine lv_iload_n hx hb dX11_then_29 rfl (lv_at hl 2 rfl) ?_
      obtain ⟨v5, h4, h⟩ := bd_o h
      refine back_i (rest := []) hW (run_V S hW (ct_X0_isAllowed l G A σ _ a1 a2 h4) mi_X0_isAllowed lk_X11_227 (eC_1 G A σ) rfl rfl rfl hl (Nat.le_of_ble_eq_true rfl) dX11_then_30 ⟨Nat.le_of_ble_eq_true rfl, Nat.le_of_ble_eq_true rfl⟩ rfl rfl) (fun H locs hW => ?_)
      refine bz_ne (tgt := 43) hx hb h dX11_then_33 (by decide) (fun _ h => ?_) (fun _ h => ?_)
      · refine lv_aload_n hx hb dX11_then_36 rfl (lv_at hl 0 rfl) ?_
        refine lv_bipush (v := (-6)) hx hb dX11_then_37 (by decide) ?_
        obtain ⟨v10, σ9, h8, h⟩ := bd2_o h
        refine back_i (rest := []) hW (run_V S hW (ct_X11_refuse l G A σ _ (-6) h8) mi_X11_refuse lk_X11_108 (eC_0 G A σ) rfl rfl rfl hl (Nat.le_of_ble_eq_true rfl) dX11_then_39 ⟨Nat.le_of_ble_eq_true rfl, Nat.le_of_ble_eq_true rfl⟩ rfl rfl) (fun H locs hW => ?_)
        exact ret_is (wf := wC G A) hret h rfl hW dX11_then_42
      · refine lv_aload_n hx hb dX11_then_43 rfl (lv_at hl 0 rfl) ?_
        refine gC_X11_table S hW lk_X11_12 dX11_then_44 ?_
        refine lv_iload_n hx hb dX11_then_47 rfl (lv_at hl 1 rfl) ?_
        refine lv_iload_n hx hb dX11_then_48 rfl (lv_at hl 2 rfl) ?_
        obtain ⟨v7, h6, h⟩ := bd_o h
        refine back_i (rest := []) hW (run_V S hW (ct_X0_after l G A σ _ a1 a2 h6) mi_X0_after lk_X11_230 (eC_1 G A σ) rfl rfl rfl hl (Nat.le_of_ble_eq_true rfl) dX11_then_49 ⟨Nat.le_of_ble_eq_true rfl, Nat.le_of_ble_eq_true rfl⟩ rfl rfl) (fun H locs hW => ?_)
        exact ret_is (wf := wC G A) hret h rfl hW dX11_then_52
def rmX11_level : Room := { frames := 13, cells := 0, slots := 0, locals := 421 }
def f_X11_level (n : Nat) (σ : SC) (a1 : Int32) (a2 : Int32) : Option (Int32 × SC) := if (f_X11_isFacts a1) = 0 then bd2 (f_X11_refuse σ (-6)) (fun v3 σ2 => some (v3, σ2)) else if a2 < 0 then bd2 (f_X11_refuse σ (-6)) (fun v6 σ5 => some (v6, σ5)) else if a2 ≤ 30 then bd (f_X3_spread n σ a1 0) (fun σ8 => bd (f_X3_factsAt σ8 a2) (fun v10 => some (v10, σ8))) else bd2 (f_X11_refuse σ (-6)) (fun v13 σ12 => some (v13, σ12))
theorem mi_X11_level : MI yX11_level cX11_level 3 (some .int) 2 := ⟨im_X11_level, se_X11_level, in_X11, co_X11_level, by decide, by decide, by decide +kernel⟩
set_option maxRecDepth 100000 in
set_option maxHeartbeats 4000000 in
theorem ct_X11_level (l : Launch) (n : Nat) (G : EN) (A : Nat → Nat) (σ : SC) (sz : Nat) (a1 : Int32) (a2 : Int32) {r0 : Int32} {σ0 : SC} (h : f_X11_level n σ a1 a2 = some (r0, σ0)) : CT l yX11_level cX11_level 3 (some .int) rmX11_level G sz [.ref (A 0), .int a1, .int a2] (wC G A σ) (QI G (va_A (wC G A σ) sz) r0 (wC G A σ0)) := by
  unfold f_X11_level at h
  refine CI.intro (lv := [(0, .ref (A 0)), (1, .int a1), (2, .int a2)]) (by decide) (Nat.le_of_ble_eq_true rfl) rfl ?_
  intro p e s m args below meth c Q B S hret H locs ls hW hl
  have hx := S.1
  have hb := S.2.1
  refine lv_iload_n hx hb dX11_level_0 rfl (lv_at hl 1 rfl) ?_
  refine back_i (rest := []) hW (run_S S hW (ct_X11_isFacts l G A σ _ a1 rfl) ms_X11_isFacts lk_X11_173 rfl rfl hl (Nat.le_of_ble_eq_true rfl) dX11_level_1 ⟨Nat.le_of_ble_eq_true rfl, Nat.le_of_ble_eq_true rfl⟩ rfl rfl) (fun H locs hW => ?_)
  refine bz_eq (tgt := 17) hx hb h dX11_level_4 (by decide) (fun _ h => ?_) (fun _ h => ?_)
  · refine lv_aload_n hx hb dX11_level_17 rfl (lv_at hl 0 rfl) ?_
    refine lv_bipush (v := (-6)) hx hb dX11_level_18 (by decide) ?_
    obtain ⟨v3, σ2, h1, h⟩ := bd2_o h
    refine back_i (rest := []) hW (run_V S hW (ct_X11_refuse l G A σ _ (-6) h1) mi_X11_refuse lk_X11_108 (eC_0 G A σ) rfl rfl rfl hl (Nat.le_of_ble_eq_true rfl) dX11_level_20 ⟨Nat.le_of_ble_eq_true rfl, Nat.le_of_ble_eq_true rfl⟩ rfl rfl) (fun H locs hW => ?_)
    exact ret_is (wf := wC G A) hret h rfl hW dX11_level_23
  · refine lv_iload_n hx hb dX11_level_7 rfl (lv_at hl 2 rfl) ?_
    refine bz_lt (tgt := 17) hx hb h dX11_level_8 (by decide) (fun _ h => ?_) (fun _ h => ?_)
    · refine lv_aload_n hx hb dX11_level_17 rfl (lv_at hl 0 rfl) ?_
      refine lv_bipush (v := (-6)) hx hb dX11_level_18 (by decide) ?_
      obtain ⟨v6, σ5, h4, h⟩ := bd2_o h
      refine back_i (rest := []) hW (run_V S hW (ct_X11_refuse l G A σ _ (-6) h4) mi_X11_refuse lk_X11_108 (eC_0 G A σ) rfl rfl rfl hl (Nat.le_of_ble_eq_true rfl) dX11_level_20 ⟨Nat.le_of_ble_eq_true rfl, Nat.le_of_ble_eq_true rfl⟩ rfl rfl) (fun H locs hW => ?_)
      exact ret_is (wf := wC G A) hret h rfl hW dX11_level_23
    · refine lv_iload_n hx hb dX11_level_11 rfl (lv_at hl 2 rfl) ?_
      refine lv_bipush (v := 30) hx hb dX11_level_12 (by decide) ?_
      refine bc_le (tgt := 24) hx hb h dX11_level_14 (by decide) (fun _ h => ?_) (fun _ h => ?_)
      · refine lv_aload_n hx hb dX11_level_24 rfl (lv_at hl 0 rfl) ?_
        refine gC_X11_levels S hW lk_X11_27 dX11_level_25 ?_
        refine lv_iload_n hx hb dX11_level_28 rfl (lv_at hl 1 rfl) ?_
        refine lv_iconst (v := 0) hx hb dX11_level_29 (by decide) ?_
        obtain ⟨σ8, h7, h⟩ := bd_o h
        refine back_v (rest := []) hW (run_V S hW (ct_X3_spread l n G A σ _ a1 0 h7) mi_X3_spread lk_X11_233 (eC_11 G A σ) rfl rfl rfl hl (Nat.le_of_ble_eq_true rfl) dX11_level_30 ⟨Nat.le_of_ble_eq_true rfl, Nat.le_of_ble_eq_true rfl⟩ rfl rfl) (fun H locs hW => ?_)
        refine lv_aload_n hx hb dX11_level_33 rfl (lv_at hl 0 rfl) ?_
        refine gC_X11_levels S hW lk_X11_27 dX11_level_34 ?_
        refine lv_iload_n hx hb dX11_level_37 rfl (lv_at hl 2 rfl) ?_
        obtain ⟨v10, h9, h⟩ := bd_o h
        refine back_i (rest := []) hW (run_V S hW (ct_X3_factsAt l G A σ8 _ a2 h9) mi_X3_factsAt lk_X11_236 (eC_11 G A σ8) rfl rfl rfl hl (Nat.le_of_ble_eq_true rfl) dX11_level_38 ⟨Nat.le_of_ble_eq_true rfl, Nat.le_of_ble_eq_true rfl⟩ rfl rfl) (fun H locs hW => ?_)
        exact ret_is (wf := wC G A) hret h rfl hW dX11_level_41
      · refine lv_aload_n hx hb dX11_level_17 rfl (lv_at hl 0 rfl) ?_
        refine lv_bipush (v := (-6)) hx hb dX11_level_18 (by decide) ?_
        obtain ⟨v13, σ12, h11, h⟩ := bd2_o h
        refine back_i (rest := []) hW (run_V S hW (ct_X11_refuse l G A σ _ (-6) h11) mi_X11_refuse lk_X11_108 (eC_0 G A σ) rfl rfl rfl hl (Nat.le_of_ble_eq_true rfl) dX11_level_20 ⟨Nat.le_of_ble_eq_true rfl, Nat.le_of_ble_eq_true rfl⟩ rfl rfl) (fun H locs hW => ?_)
        exact ret_is (wf := wC G A) hret h rfl hW dX11_level_23
def rmX11_isFact : Room := { frames := 0, cells := 0, slots := 0, locals := 0 }
def f_X11_isFact (a0 : Int32) : Int32 := if a0 < 0 then 0 else if 30 ≤ a0 then 0 else 1
theorem z_X11_isFact (a0 : Int32) : f_X11_isFact a0 = 0 ∨ f_X11_isFact a0 = 1 := by
  unfold f_X11_isFact
  repeat' (first | split | exact Or.inl rfl | exact Or.inr rfl)
theorem ms_X11_isFact : MSt yX11_isFact cX11_isFact 1 (some .boolean) 1 := ⟨sm_X11_isFact, in_X11, co_X11_isFact, by decide, by decide, by decide +kernel⟩
set_option maxRecDepth 100000 in
set_option maxHeartbeats 4000000 in
theorem ct_X11_isFact (l : Launch) (G : EN) (A : Nat → Nat) (σ : SC) (sz : Nat) (a0 : Int32) {r0 : Int32} (h : f_X11_isFact a0 = r0) : CT l yX11_isFact cX11_isFact 1 (some .boolean) rmX11_isFact G sz [.int a0] (wC G A σ) (QI G (va_A (wC G A σ) sz) r0 (wC G A σ)) := by
  unfold f_X11_isFact at h
  refine CI.intro (lv := [(0, .int a0)]) (by decide) (Nat.le_of_ble_eq_true rfl) rfl ?_
  intro p e s m args below meth c Q B S hret H locs ls hW hl
  have hx := S.1
  have hb := S.2.1
  refine lv_iload_n hx hb dX11_isFact_0 rfl (lv_at hl 0 rfl) ?_
  refine bz_lt (tgt := 14) hx hb h dX11_isFact_1 (by decide) (fun _ h => ?_) (fun _ h => ?_)
  · refine lv_iconst (v := 0) hx hb dX11_isFact_14 (by decide) ?_
    exact hret H locs _ ls _ h (nar_z (Or.inl rfl)) hW dX11_isFact_15
  · refine lv_iload_n hx hb dX11_isFact_4 rfl (lv_at hl 0 rfl) ?_
    refine lv_bipush (v := 30) hx hb dX11_isFact_5 (by decide) ?_
    refine bc_ge (tgt := 14) hx hb h dX11_isFact_7 (by decide) (fun _ h => ?_) (fun _ h => ?_)
    · refine lv_iconst (v := 0) hx hb dX11_isFact_14 (by decide) ?_
      exact hret H locs _ ls _ h (nar_z (Or.inl rfl)) hW dX11_isFact_15
    · refine lv_iconst (v := 1) hx hb dX11_isFact_10 (by decide) ?_
      refine lv_goto (tgt := 15) hx hb dX11_isFact_11 (by decide) ?_
      exact hret H locs _ ls _ h (nar_z (Or.inr rfl)) hW dX11_isFact_15
def rmX11_refuseShifted : Room := { frames := 1, cells := 0, slots := 0, locals := 22 }
def f_X11_refuseShifted (σ : SC) (a1 : Int32) : Option (Int32 × SC) := bd2 (f_X11_refuse σ a1) (fun v3 σ2 => some ((v3 + (-10)), σ2))
theorem mi_X11_refuseShifted : MI yX11_refuseShifted cX11_refuseShifted 2 (some .int) 1 := ⟨im_X11_refuseShifted, se_X11_refuseShifted, in_X11, co_X11_refuseShifted, by decide, by decide, by decide +kernel⟩
set_option maxRecDepth 100000 in
set_option maxHeartbeats 4000000 in
theorem ct_X11_refuseShifted (l : Launch) (G : EN) (A : Nat → Nat) (σ : SC) (sz : Nat) (a1 : Int32) {r0 : Int32} {σ0 : SC} (h : f_X11_refuseShifted σ a1 = some (r0, σ0)) : CT l yX11_refuseShifted cX11_refuseShifted 2 (some .int) rmX11_refuseShifted G sz [.ref (A 0), .int a1] (wC G A σ) (QI G (va_A (wC G A σ) sz) r0 (wC G A σ0)) := by
  unfold f_X11_refuseShifted at h
  refine CI.intro (lv := [(0, .ref (A 0)), (1, .int a1)]) (by decide) (Nat.le_of_ble_eq_true rfl) rfl ?_
  intro p e s m args below meth c Q B S hret H locs ls hW hl
  have hx := S.1
  have hb := S.2.1
  refine lv_aload_n hx hb dX11_refuseShifted_0 rfl (lv_at hl 0 rfl) ?_
  refine lv_iload_n hx hb dX11_refuseShifted_1 rfl (lv_at hl 1 rfl) ?_
  obtain ⟨v3, σ2, h1, h⟩ := bd2_o h
  refine back_i (rest := []) hW (run_V S hW (ct_X11_refuse l G A σ _ a1 h1) mi_X11_refuse lk_X11_108 (eC_0 G A σ) rfl rfl rfl hl (Nat.le_of_ble_eq_true rfl) dX11_refuseShifted_2 ⟨Nat.le_of_ble_eq_true rfl, Nat.le_of_ble_eq_true rfl⟩ rfl rfl) (fun H locs hW => ?_)
  refine lv_bipush (v := (-10)) hx hb dX11_refuseShifted_5 (by decide) ?_
  refine lv_iadd hx hb dX11_refuseShifted_7 ?_
  exact ret_is (wf := wC G A) hret h rfl hW dX11_refuseShifted_8
def rmX11_first : Room := { frames := 3, cells := 0, slots := 0, locals := 69 }
def f_X11_first (n : Nat) (σ : SC) (a1 : Int32) (a2 : Int32) : Option (Int32 × SC) := if (f_X11_isFact a2) = 0 then bd2 (f_X11_refuseShifted σ (-1)) (fun v10 σ9 => some (v10, σ9)) else if (f_X11_isFacts a1) = 0 then bd2 (f_X11_refuseShifted σ (-6)) (fun v7 σ6 => some (v7, σ6)) else bd (f_X3_spread n σ a1 0) (fun σ2 => bd (f_X3_firstWith n σ2 (1 <<< (a2 &&& 31))) (fun v4 => some (v4, σ2)))
theorem mi_X11_first : MI yX11_first cX11_first 3 (some .int) 2 := ⟨im_X11_first, se_X11_first, in_X11, co_X11_first, by decide, by decide, by decide +kernel⟩
set_option maxRecDepth 100000 in
set_option maxHeartbeats 4000000 in
theorem ct_X11_first (l : Launch) (n : Nat) (G : EN) (A : Nat → Nat) (σ : SC) (sz : Nat) (a1 : Int32) (a2 : Int32) {r0 : Int32} {σ0 : SC} (h : f_X11_first n σ a1 a2 = some (r0, σ0)) : CT l yX11_first cX11_first 3 (some .int) rmX11_first G sz [.ref (A 0), .int a1, .int a2] (wC G A σ) (QI G (va_A (wC G A σ) sz) r0 (wC G A σ0)) := by
  unfold f_X11_first at h
  refine CI.intro (lv := [(0, .ref (A 0)), (1, .int a1), (2, .int a2)]) (by decide) (Nat.le_of_ble_eq_true rfl) rfl ?_
  intro p e s m args below meth c Q B S hret H locs ls hW hl
  have hx := S.1
  have hb := S.2.1
  refine lv_iload_n hx hb dX11_first_0 rfl (lv_at hl 2 rfl) ?_
  refine back_i (rest := []) hW (run_S S hW (ct_X11_isFact l G A σ _ a2 rfl) ms_X11_isFact lk_X11_239 rfl rfl hl (Nat.le_of_ble_eq_true rfl) dX11_first_1 ⟨Nat.le_of_ble_eq_true rfl, Nat.le_of_ble_eq_true rfl⟩ rfl rfl) (fun H locs hW => ?_)
  refine bz_ne (tgt := 13) hx hb h dX11_first_4 (by decide) (fun _ h => ?_) (fun _ h => ?_)
  · refine lv_aload_n hx hb dX11_first_7 rfl (lv_at hl 0 rfl) ?_
    refine lv_iconst (v := (-1)) hx hb dX11_first_8 (by decide) ?_
    obtain ⟨v10, σ9, h8, h⟩ := bd2_o h
    refine back_i (rest := []) hW (run_V S hW (ct_X11_refuseShifted l G A σ _ (-1) h8) mi_X11_refuseShifted lk_X11_242 (eC_0 G A σ) rfl rfl rfl hl (Nat.le_of_ble_eq_true rfl) dX11_first_9 ⟨Nat.le_of_ble_eq_true rfl, Nat.le_of_ble_eq_true rfl⟩ rfl rfl) (fun H locs hW => ?_)
    exact ret_is (wf := wC G A) hret h rfl hW dX11_first_12
  · refine lv_iload_n hx hb dX11_first_13 rfl (lv_at hl 1 rfl) ?_
    refine back_i (rest := []) hW (run_S S hW (ct_X11_isFacts l G A σ _ a1 rfl) ms_X11_isFacts lk_X11_173 rfl rfl hl (Nat.le_of_ble_eq_true rfl) dX11_first_14 ⟨Nat.le_of_ble_eq_true rfl, Nat.le_of_ble_eq_true rfl⟩ rfl rfl) (fun H locs hW => ?_)
    refine bz_ne (tgt := 27) hx hb h dX11_first_17 (by decide) (fun _ h => ?_) (fun _ h => ?_)
    · refine lv_aload_n hx hb dX11_first_20 rfl (lv_at hl 0 rfl) ?_
      refine lv_bipush (v := (-6)) hx hb dX11_first_21 (by decide) ?_
      obtain ⟨v7, σ6, h5, h⟩ := bd2_o h
      refine back_i (rest := []) hW (run_V S hW (ct_X11_refuseShifted l G A σ _ (-6) h5) mi_X11_refuseShifted lk_X11_242 (eC_0 G A σ) rfl rfl rfl hl (Nat.le_of_ble_eq_true rfl) dX11_first_23 ⟨Nat.le_of_ble_eq_true rfl, Nat.le_of_ble_eq_true rfl⟩ rfl rfl) (fun H locs hW => ?_)
      exact ret_is (wf := wC G A) hret h rfl hW dX11_first_26
    · refine lv_aload_n hx hb dX11_first_27 rfl (lv_at hl 0 rfl) ?_
      refine gC_X11_levels S hW lk_X11_27 dX11_first_28 ?_
      refine lv_iload_n hx hb dX11_first_31 rfl (lv_at hl 1 rfl) ?_
      refine lv_iconst (v := 0) hx hb dX11_first_32 (by decide) ?_
      obtain ⟨σ2, h1, h⟩ := bd_o h
      refine back_v (rest := []) hW (run_V S hW (ct_X3_spread l n G A σ _ a1 0 h1) mi_X3_spread lk_X11_233 (eC_11 G A σ) rfl rfl rfl hl (Nat.le_of_ble_eq_true rfl) dX11_first_33 ⟨Nat.le_of_ble_eq_true rfl, Nat.le_of_ble_eq_true rfl⟩ rfl rfl) (fun H locs hW => ?_)
      refine lv_aload_n hx hb dX11_first_36 rfl (lv_at hl 0 rfl) ?_
      refine gC_X11_levels S hW lk_X11_27 dX11_first_37 ?_
      refine lv_iconst (v := 1) hx hb dX11_first_40 (by decide) ?_
      refine lv_iload_n hx hb dX11_first_41 rfl (lv_at hl 2 rfl) ?_
      refine lv_ishl hx hb dX11_first_42 ?_
      obtain ⟨v4, h3, h⟩ := bd_o h
      refine back_i (rest := []) hW (run_V S hW (ct_X3_firstWith l n G A σ2 _ (1 <<< (a2 &&& 31)) h3) mi_X3_firstWith lk_X11_245 (eC_11 G A σ2) rfl rfl rfl hl (Nat.le_of_ble_eq_true rfl) dX11_first_43 ⟨Nat.le_of_ble_eq_true rfl, Nat.le_of_ble_eq_true rfl⟩ rfl rfl) (fun H locs hW => ?_)
      exact ret_is (wf := wC G A) hret h rfl hW dX11_first_46
def rmX11_firstOf : Room := { frames := 3, cells := 0, slots := 0, locals := 69 }
def f_X11_firstOf (n : Nat) (σ : SC) (a1 : Int32) (a2 : Int32) : Option (Int32 × SC) := if (f_X0_has σ a2) = 0 then bd2 (f_X11_refuseShifted σ (-1)) (fun v11 σ10 => some (v11, σ10)) else if (f_X11_isFacts a1) = 0 then bd2 (f_X11_refuseShifted σ (-6)) (fun v8 σ7 => some (v8, σ7)) else bd (f_X3_spread n σ a1 0) (fun σ2 => ld (ga σ2 0) 24 a2 (fun v3 => bd (f_X3_firstWith n σ2 v3) (fun v5 => some (v5, σ2))))
theorem mi_X11_firstOf : MI yX11_firstOf cX11_firstOf 3 (some .int) 2 := ⟨im_X11_firstOf, se_X11_firstOf, in_X11, co_X11_firstOf, by decide, by decide, by decide +kernel⟩
set_option maxRecDepth 100000 in
set_option maxHeartbeats 4000000 in
theorem ct_X11_firstOf (l : Launch) (n : Nat) (G : EN) (A : Nat → Nat) (σ : SC) (sz : Nat) (a1 : Int32) (a2 : Int32) {r0 : Int32} {σ0 : SC} (h : f_X11_firstOf n σ a1 a2 = some (r0, σ0)) : CT l yX11_firstOf cX11_firstOf 3 (some .int) rmX11_firstOf G sz [.ref (A 0), .int a1, .int a2] (wC G A σ) (QI G (va_A (wC G A σ) sz) r0 (wC G A σ0)) := by
  unfold f_X11_firstOf at h
  refine CI.intro (lv := [(0, .ref (A 0)), (1, .int a1), (2, .int a2)]) (by decide) (Nat.le_of_ble_eq_true rfl) rfl ?_
  intro p e s m args below meth c Q B S hret H locs ls hW hl
  have hx := S.1
  have hb := S.2.1
  refine lv_aload_n hx hb dX11_firstOf_0 rfl (lv_at hl 0 rfl) ?_
  refine gC_X11_table S hW lk_X11_12 dX11_firstOf_1 ?_
  refine lv_iload_n hx hb dX11_firstOf_4 rfl (lv_at hl 2 rfl) ?_
  refine back_i (rest := []) hW (run_V S hW (ct_X0_has l G A σ _ a2 rfl) mi_X0_has lk_X11_148 (eC_1 G A σ) rfl rfl rfl hl (Nat.le_of_ble_eq_true rfl) dX11_firstOf_5 ⟨Nat.le_of_ble_eq_true rfl, Nat.le_of_ble_eq_true rfl⟩ rfl rfl) (fun H locs hW => ?_)
  refine bz_ne (tgt := 17) hx hb h dX11_firstOf_8 (by decide) (fun _ h => ?_) (fun _ h => ?_)
  · refine lv_aload_n hx hb dX11_firstOf_11 rfl (lv_at hl 0 rfl) ?_
    refine lv_iconst (v := (-1)) hx hb dX11_firstOf_12 (by decide) ?_
    obtain ⟨v11, σ10, h9, h⟩ := bd2_o h
    refine back_i (rest := []) hW (run_V S hW (ct_X11_refuseShifted l G A σ _ (-1) h9) mi_X11_refuseShifted lk_X11_242 (eC_0 G A σ) rfl rfl rfl hl (Nat.le_of_ble_eq_true rfl) dX11_firstOf_13 ⟨Nat.le_of_ble_eq_true rfl, Nat.le_of_ble_eq_true rfl⟩ rfl rfl) (fun H locs hW => ?_)
    exact ret_is (wf := wC G A) hret h rfl hW dX11_firstOf_16
  · refine lv_iload_n hx hb dX11_firstOf_17 rfl (lv_at hl 1 rfl) ?_
    refine back_i (rest := []) hW (run_S S hW (ct_X11_isFacts l G A σ _ a1 rfl) ms_X11_isFacts lk_X11_173 rfl rfl hl (Nat.le_of_ble_eq_true rfl) dX11_firstOf_18 ⟨Nat.le_of_ble_eq_true rfl, Nat.le_of_ble_eq_true rfl⟩ rfl rfl) (fun H locs hW => ?_)
    refine bz_ne (tgt := 31) hx hb h dX11_firstOf_21 (by decide) (fun _ h => ?_) (fun _ h => ?_)
    · refine lv_aload_n hx hb dX11_firstOf_24 rfl (lv_at hl 0 rfl) ?_
      refine lv_bipush (v := (-6)) hx hb dX11_firstOf_25 (by decide) ?_
      obtain ⟨v8, σ7, h6, h⟩ := bd2_o h
      refine back_i (rest := []) hW (run_V S hW (ct_X11_refuseShifted l G A σ _ (-6) h6) mi_X11_refuseShifted lk_X11_242 (eC_0 G A σ) rfl rfl rfl hl (Nat.le_of_ble_eq_true rfl) dX11_firstOf_27 ⟨Nat.le_of_ble_eq_true rfl, Nat.le_of_ble_eq_true rfl⟩ rfl rfl) (fun H locs hW => ?_)
      exact ret_is (wf := wC G A) hret h rfl hW dX11_firstOf_30
    · refine lv_aload_n hx hb dX11_firstOf_31 rfl (lv_at hl 0 rfl) ?_
      refine gC_X11_levels S hW lk_X11_27 dX11_firstOf_32 ?_
      refine lv_iload_n hx hb dX11_firstOf_35 rfl (lv_at hl 1 rfl) ?_
      refine lv_iconst (v := 0) hx hb dX11_firstOf_36 (by decide) ?_
      obtain ⟨σ2, h1, h⟩ := bd_o h
      refine back_v (rest := []) hW (run_V S hW (ct_X3_spread l n G A σ _ a1 0 h1) mi_X3_spread lk_X11_233 (eC_11 G A σ) rfl rfl rfl hl (Nat.le_of_ble_eq_true rfl) dX11_firstOf_37 ⟨Nat.le_of_ble_eq_true rfl, Nat.le_of_ble_eq_true rfl⟩ rfl rfl) (fun H locs hW => ?_)
      refine lv_aload_n hx hb dX11_firstOf_40 rfl (lv_at hl 0 rfl) ?_
      refine gC_X11_levels S hW lk_X11_27 dX11_firstOf_41 ?_
      refine lv_aload_n hx hb dX11_firstOf_44 rfl (lv_at hl 0 rfl) ?_
      refine gC_X11_table S hW lk_X11_12 dX11_firstOf_45 ?_
      refine gC_X0_needs S hW lk_X11_215 dX11_firstOf_48 ?_
      refine lv_iload_n hx hb dX11_firstOf_51 rfl (lv_at hl 2 rfl) ?_
      refine aC_2 S hW h dX11_firstOf_52 (fun v3 _ h => ?_)
      obtain ⟨v5, h4, h⟩ := bd_o h
      refine back_i (rest := []) hW (run_V S hW (ct_X3_firstWith l n G A σ2 _ v3 h4) mi_X3_firstWith lk_X11_245 (eC_11 G A σ2) rfl rfl rfl hl (Nat.le_of_ble_eq_true rfl) dX11_firstOf_53 ⟨Nat.le_of_ble_eq_true rfl, Nat.le_of_ble_eq_true rfl⟩ rfl rfl) (fun H locs hW => ?_)
      exact ret_is (wf := wC G A) hret h rfl hW dX11_firstOf_56
def rmX11_isGuess : Room := { frames := 0, cells := 0, slots := 0, locals := 0 }
def f_X11_isGuess (a0 : Int32) : Int32 := if a0 < 0 then 0 else if 3 < a0 then 0 else 1
theorem z_X11_isGuess (a0 : Int32) : f_X11_isGuess a0 = 0 ∨ f_X11_isGuess a0 = 1 := by
  unfold f_X11_isGuess
  repeat' (first | split | exact Or.inl rfl | exact Or.inr rfl)
theorem ms_X11_isGuess : MSt yX11_isGuess cX11_isGuess 1 (some .boolean) 1 := ⟨sm_X11_isGuess, in_X11, co_X11_isGuess, by decide, by decide, by decide +kernel⟩
set_option maxRecDepth 100000 in
set_option maxHeartbeats 4000000 in
theorem ct_X11_isGuess (l : Launch) (G : EN) (A : Nat → Nat) (σ : SC) (sz : Nat) (a0 : Int32) {r0 : Int32} (h : f_X11_isGuess a0 = r0) : CT l yX11_isGuess cX11_isGuess 1 (some .boolean) rmX11_isGuess G sz [.int a0] (wC G A σ) (QI G (va_A (wC G A σ) sz) r0 (wC G A σ)) := by
  unfold f_X11_isGuess at h
  refine CI.intro (lv := [(0, .int a0)]) (by decide) (Nat.le_of_ble_eq_true rfl) rfl ?_
  intro p e s m args below meth c Q B S hret H locs ls hW hl
  have hx := S.1
  have hb := S.2.1
  refine lv_iload_n hx hb dX11_isGuess_0 rfl (lv_at hl 0 rfl) ?_
  refine bz_lt (tgt := 13) hx hb h dX11_isGuess_1 (by decide) (fun _ h => ?_) (fun _ h => ?_)
  · refine lv_iconst (v := 0) hx hb dX11_isGuess_13 (by decide) ?_
    exact hret H locs _ ls _ h (nar_z (Or.inl rfl)) hW dX11_isGuess_14
  · refine lv_iload_n hx hb dX11_isGuess_4 rfl (lv_at hl 0 rfl) ?_
    refine lv_iconst (v := 3) hx hb dX11_isGuess_5 (by decide) ?_
    refine bc_gt (tgt := 13) hx hb h dX11_isGuess_6 (by decide) (fun _ h => ?_) (fun _ h => ?_)
    · refine lv_iconst (v := 0) hx hb dX11_isGuess_13 (by decide) ?_
      exact hret H locs _ ls _ h (nar_z (Or.inl rfl)) hW dX11_isGuess_14
    · refine lv_iconst (v := 1) hx hb dX11_isGuess_9 (by decide) ?_
      refine lv_goto (tgt := 14) hx hb dX11_isGuess_10 (by decide) ?_
      exact hret H locs _ ls _ h (nar_z (Or.inr rfl)) hW dX11_isGuess_14
def rmX11_guess : Room := { frames := 16, cells := 0, slots := 0, locals := 496 }
def f_X11_guess (n : Nat) (σ : SC) (a1 : Int32) (a2 : Int32) : Option (Int32 × SC) := if (f_X11_isGuess a2) = 0 then bd2 (f_X11_refuseShifted σ (-1)) (fun v9 σ8 => some (v9, σ8)) else if (f_X11_isFacts a1) = 0 then bd2 (f_X11_refuseShifted σ (-6)) (fun v6 σ5 => some (v6, σ5)) else bd2 (f_X2_guessOf n σ a1 (gi σ 2) a2) (fun v3 σ2 => some (v3, σ2))
theorem mi_X11_guess : MI yX11_guess cX11_guess 3 (some .int) 2 := ⟨im_X11_guess, se_X11_guess, in_X11, co_X11_guess, by decide, by decide, by decide +kernel⟩
set_option maxRecDepth 100000 in
set_option maxHeartbeats 4000000 in
theorem ct_X11_guess (l : Launch) (n : Nat) (G : EN) (A : Nat → Nat) (σ : SC) (sz : Nat) (a1 : Int32) (a2 : Int32) {r0 : Int32} {σ0 : SC} (h : f_X11_guess n σ a1 a2 = some (r0, σ0)) : CT l yX11_guess cX11_guess 3 (some .int) rmX11_guess G sz [.ref (A 0), .int a1, .int a2] (wC G A σ) (QI G (va_A (wC G A σ) sz) r0 (wC G A σ0)) := by
  unfold f_X11_guess at h
  refine CI.intro (lv := [(0, .ref (A 0)), (1, .int a1), (2, .int a2)]) (by decide) (Nat.le_of_ble_eq_true rfl) rfl ?_
  intro p e s m args below meth c Q B S hret H locs ls hW hl
  have hx := S.1
  have hb := S.2.1
  refine lv_iload_n hx hb dX11_guess_0 rfl (lv_at hl 2 rfl) ?_
  refine back_i (rest := []) hW (run_S S hW (ct_X11_isGuess l G A σ _ a2 rfl) ms_X11_isGuess lk_X11_248 rfl rfl hl (Nat.le_of_ble_eq_true rfl) dX11_guess_1 ⟨Nat.le_of_ble_eq_true rfl, Nat.le_of_ble_eq_true rfl⟩ rfl rfl) (fun H locs hW => ?_)
  refine bz_ne (tgt := 13) hx hb h dX11_guess_4 (by decide) (fun _ h => ?_) (fun _ h => ?_)
  · refine lv_aload_n hx hb dX11_guess_7 rfl (lv_at hl 0 rfl) ?_
    refine lv_iconst (v := (-1)) hx hb dX11_guess_8 (by decide) ?_
    obtain ⟨v9, σ8, h7, h⟩ := bd2_o h
    refine back_i (rest := []) hW (run_V S hW (ct_X11_refuseShifted l G A σ _ (-1) h7) mi_X11_refuseShifted lk_X11_242 (eC_0 G A σ) rfl rfl rfl hl (Nat.le_of_ble_eq_true rfl) dX11_guess_9 ⟨Nat.le_of_ble_eq_true rfl, Nat.le_of_ble_eq_true rfl⟩ rfl rfl) (fun H locs hW => ?_)
    exact ret_is (wf := wC G A) hret h rfl hW dX11_guess_12
  · refine lv_iload_n hx hb dX11_guess_13 rfl (lv_at hl 1 rfl) ?_
    refine back_i (rest := []) hW (run_S S hW (ct_X11_isFacts l G A σ _ a1 rfl) ms_X11_isFacts lk_X11_173 rfl rfl hl (Nat.le_of_ble_eq_true rfl) dX11_guess_14 ⟨Nat.le_of_ble_eq_true rfl, Nat.le_of_ble_eq_true rfl⟩ rfl rfl) (fun H locs hW => ?_)
    refine bz_ne (tgt := 27) hx hb h dX11_guess_17 (by decide) (fun _ h => ?_) (fun _ h => ?_)
    · refine lv_aload_n hx hb dX11_guess_20 rfl (lv_at hl 0 rfl) ?_
      refine lv_bipush (v := (-6)) hx hb dX11_guess_21 (by decide) ?_
      obtain ⟨v6, σ5, h4, h⟩ := bd2_o h
      refine back_i (rest := []) hW (run_V S hW (ct_X11_refuseShifted l G A σ _ (-6) h4) mi_X11_refuseShifted lk_X11_242 (eC_0 G A σ) rfl rfl rfl hl (Nat.le_of_ble_eq_true rfl) dX11_guess_23 ⟨Nat.le_of_ble_eq_true rfl, Nat.le_of_ble_eq_true rfl⟩ rfl rfl) (fun H locs hW => ?_)
      exact ret_is (wf := wC G A) hret h rfl hW dX11_guess_26
    · refine lv_aload_n hx hb dX11_guess_27 rfl (lv_at hl 0 rfl) ?_
      refine gC_X11_guesser S hW lk_X11_36 dX11_guess_28 ?_
      refine lv_iload_n hx hb dX11_guess_31 rfl (lv_at hl 1 rfl) ?_
      refine lv_aload_n hx hb dX11_guess_32 rfl (lv_at hl 0 rfl) ?_
      refine gC_X11_goalSet S hW lk_X11_91 dX11_guess_33 ?_
      refine lv_iload_n hx hb dX11_guess_36 rfl (lv_at hl 2 rfl) ?_
      obtain ⟨v3, σ2, h1, h⟩ := bd2_o h
      refine back_i (rest := []) hW (run_V S hW (ct_X2_guessOf l n G A σ _ a1 (gi σ 2) a2 h1) mi_X2_guessOf lk_X11_251 (eC_13 G A σ) rfl rfl rfl hl (Nat.le_of_ble_eq_true rfl) dX11_guess_37 ⟨Nat.le_of_ble_eq_true rfl, Nat.le_of_ble_eq_true rfl⟩ rfl rfl) (fun H locs hW => ?_)
      exact ret_is (wf := wC G A) hret h rfl hW dX11_guess_40
