theorem fs_X0 : ∀ j, j < 9 → defaultValue (tyX0 j) = vp_V [.null, .null, .null, .null, .null, .null, .null, .null, .int 0] j := by
  intro j hj
  match j, hj with
  | 0, _ => rfl
  | 1, _ => rfl
  | 2, _ => rfl
  | 3, _ => rfl
  | 4, _ => rfl
  | 5, _ => rfl
  | 6, _ => rfl
  | 7, _ => rfl
  | 8, _ => rfl
theorem fs_X1 : ∀ j, j < 4 → defaultValue (tyX1 j) = vp_V [.null, .null, .int 0, .int 0] j := by
  intro j hj
  match j, hj with
  | 0, _ => rfl
  | 1, _ => rfl
  | 2, _ => rfl
  | 3, _ => rfl
theorem fs_X2 : ∀ j, j < 3 → defaultValue (tyX2 j) = vp_V [.null, .null, .null] j := by
  intro j hj
  match j, hj with
  | 0, _ => rfl
  | 1, _ => rfl
  | 2, _ => rfl
theorem fs_X3 : ∀ j, j < 3 → defaultValue (tyX3 j) = vp_V [.null, .null, .int 0] j := by
  intro j hj
  match j, hj with
  | 0, _ => rfl
  | 1, _ => rfl
  | 2, _ => rfl
theorem fs_X4 : ∀ j, j < 12 → defaultValue (tyX4 j) = vp_V [.null, .null, .null, .null, .null, .null, .int 0, .int 0, .int 0, .int 0, .int 0, .int 0] j := by
  intro j hj
  match j, hj with
  | 0, _ => rfl
  | 1, _ => rfl
  | 2, _ => rfl
  | 3, _ => rfl
  | 4, _ => rfl
  | 5, _ => rfl
  | 6, _ => rfl
  | 7, _ => rfl
  | 8, _ => rfl
  | 9, _ => rfl
  | 10, _ => rfl
  | 11, _ => rfl
theorem fs_X5 : ∀ j, j < 6 → defaultValue (tyX5 j) = vp_V [.int 0, .int 0, .int 0, .int 0, .int 0, .int 0] j := by
  intro j hj
  match j, hj with
  | 0, _ => rfl
  | 1, _ => rfl
  | 2, _ => rfl
  | 3, _ => rfl
  | 4, _ => rfl
  | 5, _ => rfl
theorem fs_X6 : ∀ j, j < 6 → defaultValue (tyX6 j) = vp_V [.null, .null, .null, .int 0, .int 0, .int 0] j := by
  intro j hj
  match j, hj with
  | 0, _ => rfl
  | 1, _ => rfl
  | 2, _ => rfl
  | 3, _ => rfl
  | 4, _ => rfl
  | 5, _ => rfl
theorem fs_X7 : ∀ j, j < 7 → defaultValue (tyX7 j) = vp_V [.null, .null, .null, .int 0, .int 0, .int 0, .int 0] j := by
  intro j hj
  match j, hj with
  | 0, _ => rfl
  | 1, _ => rfl
  | 2, _ => rfl
  | 3, _ => rfl
  | 4, _ => rfl
  | 5, _ => rfl
  | 6, _ => rfl
theorem fs_X8 : ∀ j, j < 3 → defaultValue (tyX8 j) = vp_V [.null, .int 0, .int 0] j := by
  intro j hj
  match j, hj with
  | 0, _ => rfl
  | 1, _ => rfl
  | 2, _ => rfl
theorem fs_X9 : ∀ j, j < 9 → defaultValue (tyX9 j) = vp_V [.null, .null, .int 0, .int 0, .int 0, .int 0, .int 0, .int 0, .int 0] j := by
  intro j hj
  match j, hj with
  | 0, _ => rfl
  | 1, _ => rfl
  | 2, _ => rfl
  | 3, _ => rfl
  | 4, _ => rfl
  | 5, _ => rfl
  | 6, _ => rfl
  | 7, _ => rfl
  | 8, _ => rfl
theorem fs_X10 : ∀ j, j < 5 → defaultValue (tyX10 j) = vp_V [.null, .null, .int 0, .int 0, .int 0] j := by
  intro j hj
  match j, hj with
  | 0, _ => rfl
  | 1, _ => rfl
  | 2, _ => rfl
  | 3, _ => rfl
  | 4, _ => rfl
theorem fs_X11 : ∀ j, j < 17 → defaultValue (tyX11 j) = vp_V [.null, .null, .null, .null, .null, .null, .null, .null, .null, .null, .null, .int 0, .int 0, .int 0, .int 0, .int 0, .int 0] j := by
  intro j hj
  match j, hj with
  | 0, _ => rfl
  | 1, _ => rfl
  | 2, _ => rfl
  | 3, _ => rfl
  | 4, _ => rfl
  | 5, _ => rfl
  | 6, _ => rfl
  | 7, _ => rfl
  | 8, _ => rfl
  | 9, _ => rfl
  | 10, _ => rfl
  | 11, _ => rfl
  | 12, _ => rfl
  | 13, _ => rfl
  | 14, _ => rfl
  | 15, _ => rfl
  | 16, _ => rfl
  | k + 17, h => exact absurd h (by omega)
theorem fs_X12 : ∀ j, j < 29 → defaultValue (tyX12 j) = vp_V [.int 0, .null, .null, .int 0, .null, .null, .null, .null, .null, .int 0, .int 0, .int 0, .int 0, .int 0, .null, .null, .null, .int 0, .null, .null, .null, .null, .int 0, .null, .int 0, .int 0, .int 0, .null, .int 0] j := by
  intro j hj
  match j, hj with
  | 0, _ => rfl
  | 1, _ => rfl
  | 2, _ => rfl
  | 3, _ => rfl
  | 4, _ => rfl
  | 5, _ => rfl
  | 6, _ => rfl
  | 7, _ => rfl
  | 8, _ => rfl
  | 9, _ => rfl
  | 10, _ => rfl
  | 11, _ => rfl
  | 12, _ => rfl
  | 13, _ => rfl
  | 14, _ => rfl
  | 15, _ => rfl
  | 16, _ => rfl
  | 17, _ => rfl
  | 18, _ => rfl
  | 19, _ => rfl
  | 20, _ => rfl
  | 21, _ => rfl
  | 22, _ => rfl
  | 23, _ => rfl
  | 24, _ => rfl
  | 25, _ => rfl
  | 26, _ => rfl
  | 27, _ => rfl
  | 28, _ => rfl
  | k + 29, h => exact absurd h (by omega)
def rmcX0 : Room := { frames := 1, cells := 8, slots := 192, locals := 12 }
theorem mn_X0 : MN yX0_init cX0_init 1 0 := ⟨im_X0_init, in_X0, co_X0_init, rfl, by decide, by decide, by decide +kernel⟩
set_option maxRecDepth 100000 in
set_option maxHeartbeats 4000000 in
theorem cn_X0 (l : Launch) (G : EN) (sz : Nat) (q0 : Nat) : CN l yX0_init cX0_init 1 rmcX0 G sz [.ref q0] [(q0, .inr (0, [.null, .null, .null, .null, .null, .null, .null, .null, .int 0]))] (fun u => [(q0, .inr (0, [.ref (u 0), .ref (u 1), .ref (u 2), .ref (u 3), .ref (u 4), .ref (u 5), .ref (u 6), .ref (u 7), .int 0])), ((u 0), .inl (G.2.1 0, 24, .inl (fun _ => 0))), ((u 1), .inl (G.2.1 0, 24, .inl (fun _ => 0))), ((u 2), .inl (G.2.1 0, 24, .inl (fun _ => 0))), ((u 3), .inl (G.2.1 0, 24, .inl (fun _ => 0))), ((u 4), .inl (G.2.1 0, 24, .inl (fun _ => 0))), ((u 5), .inl (G.2.1 0, 24, .inl (fun _ => 0))), ((u 6), .inl (G.2.1 0, 24, .inl (fun _ => 0))), ((u 7), .inl (G.2.1 0, 24, .inl (fun _ => 0)))]) 8 192 := by
  refine CN.intro (lv := [(0, .ref q0)]) (by decide) rfl (Nat.le_of_ble_eq_true rfl) rfl ?_
  intro p e s m args below meth c Q B S hin hret hNX H locs ls hW hl
  have hx := S.1
  have hb := S.2.1
  refine lv_aload_n hx hb dX0_init_0 rfl (lv_at hl 0 rfl) ?_
  refine x_super (rest := []) S hl lk_X0_3 rfl dX0_init_1 ⟨Nat.le_of_ble_eq_true rfl, Nat.le_of_ble_eq_true rfl⟩ ?_
  refine lv_aload_n hx hb dX0_init_4 rfl (lv_at hl 0 rfl) ?_
  refine lv_bipush (v := 24) hx hb dX0_init_5 (by decide) ?_
  refine x_newI (N' := 24) S hW (by decide) (by decide) (by decide) (Nat.le_of_ble_eq_true rfl) (Nat.le_of_ble_eq_true rfl) dX0_init_7 (fun n1 H hW => ?_)
  have hW : WS G B s [(q0, .inr (0, [.null, .null, .null, .null, .null, .null, .null, .null, .int 0])), (n1, .inl (G.2.1 0, 24, .inl (fun _ => 0)))] H _ := hW
  refine x_putF (T := TX0) (k := 0) (v := .ref n1) (ty := .array .int) (ws0 := [(q0, .inr (0, [.ref n1, .null, .null, .null, .null, .null, .null, .null, .int 0])), (n1, .inl (G.2.1 0, 24, .inl (fun _ => 0)))]) S hin hW 0 rfl rfl giX0 tyX0 tyX0_ok nmX0 (Nat.le_of_ble_eq_true rfl) lk_X0_9 rfl rfl rfl (by decide +kernel) rfl rfl (Nat.le_of_ble_eq_true rfl) rfl dX0_init_9 (fun H locs hW => ?_)
  refine lv_aload_n hx hb dX0_init_12 rfl (lv_at hl 0 rfl) ?_
  refine lv_bipush (v := 24) hx hb dX0_init_13 (by decide) ?_
  refine x_newI (N' := 24) S hW (by decide) (by decide) (by decide) (Nat.le_of_ble_eq_true rfl) (Nat.le_of_ble_eq_true rfl) dX0_init_15 (fun n2 H hW => ?_)
  have hW : WS G B s [(q0, .inr (0, [.ref n1, .null, .null, .null, .null, .null, .null, .null, .int 0])), (n1, .inl (G.2.1 0, 24, .inl (fun _ => 0))), (n2, .inl (G.2.1 0, 24, .inl (fun _ => 0)))] H _ := hW
  refine x_putF (T := TX0) (k := 1) (v := .ref n2) (ty := .array .int) (ws0 := [(q0, .inr (0, [.ref n1, .ref n2, .null, .null, .null, .null, .null, .null, .int 0])), (n1, .inl (G.2.1 0, 24, .inl (fun _ => 0))), (n2, .inl (G.2.1 0, 24, .inl (fun _ => 0)))]) S hin hW 0 rfl rfl giX0 tyX0 tyX0_ok nmX0 (Nat.le_of_ble_eq_true rfl) lk_X0_15 rfl rfl rfl (by decide +kernel) rfl rfl (Nat.le_of_ble_eq_true rfl) rfl dX0_init_17 (fun H locs hW => ?_)
  refine lv_aload_n hx hb dX0_init_20 rfl (lv_at hl 0 rfl) ?_
  refine lv_bipush (v := 24) hx hb dX0_init_21 (by decide) ?_
  refine x_newI (N' := 24) S hW (by decide) (by decide) (by decide) (Nat.le_of_ble_eq_true rfl) (Nat.le_of_ble_eq_true rfl) dX0_init_23 (fun n3 H hW => ?_)
  have hW : WS G B s [(q0, .inr (0, [.ref n1, .ref n2, .null, .null, .null, .null, .null, .null, .int 0])), (n1, .inl (G.2.1 0, 24, .inl (fun _ => 0))), (n2, .inl (G.2.1 0, 24, .inl (fun _ => 0))), (n3, .inl (G.2.1 0, 24, .inl (fun _ => 0)))] H _ := hW
  refine x_putF (T := TX0) (k := 2) (v := .ref n3) (ty := .array .int) (ws0 := [(q0, .inr (0, [.ref n1, .ref n2, .ref n3, .null, .null, .null, .null, .null, .int 0])), (n1, .inl (G.2.1 0, 24, .inl (fun _ => 0))), (n2, .inl (G.2.1 0, 24, .inl (fun _ => 0))), (n3, .inl (G.2.1 0, 24, .inl (fun _ => 0)))]) S hin hW 0 rfl rfl giX0 tyX0 tyX0_ok nmX0 (Nat.le_of_ble_eq_true rfl) lk_X0_18 rfl rfl rfl (by decide +kernel) rfl rfl (Nat.le_of_ble_eq_true rfl) rfl dX0_init_25 (fun H locs hW => ?_)
  refine lv_aload_n hx hb dX0_init_28 rfl (lv_at hl 0 rfl) ?_
  refine lv_bipush (v := 24) hx hb dX0_init_29 (by decide) ?_
  refine x_newI (N' := 24) S hW (by decide) (by decide) (by decide) (Nat.le_of_ble_eq_true rfl) (Nat.le_of_ble_eq_true rfl) dX0_init_31 (fun n4 H hW => ?_)
  have hW : WS G B s [(q0, .inr (0, [.ref n1, .ref n2, .ref n3, .null, .null, .null, .null, .null, .int 0])), (n1, .inl (G.2.1 0, 24, .inl (fun _ => 0))), (n2, .inl (G.2.1 0, 24, .inl (fun _ => 0))), (n3, .inl (G.2.1 0, 24, .inl (fun _ => 0))), (n4, .inl (G.2.1 0, 24, .inl (fun _ => 0)))] H _ := hW
  refine x_putF (T := TX0) (k := 3) (v := .ref n4) (ty := .array .int) (ws0 := [(q0, .inr (0, [.ref n1, .ref n2, .ref n3, .ref n4, .null, .null, .null, .null, .int 0])), (n1, .inl (G.2.1 0, 24, .inl (fun _ => 0))), (n2, .inl (G.2.1 0, 24, .inl (fun _ => 0))), (n3, .inl (G.2.1 0, 24, .inl (fun _ => 0))), (n4, .inl (G.2.1 0, 24, .inl (fun _ => 0)))]) S hin hW 0 rfl rfl giX0 tyX0 tyX0_ok nmX0 (Nat.le_of_ble_eq_true rfl) lk_X0_21 rfl rfl rfl (by decide +kernel) rfl rfl (Nat.le_of_ble_eq_true rfl) rfl dX0_init_33 (fun H locs hW => ?_)
  refine lv_aload_n hx hb dX0_init_36 rfl (lv_at hl 0 rfl) ?_
  refine lv_bipush (v := 24) hx hb dX0_init_37 (by decide) ?_
  refine x_newI (N' := 24) S hW (by decide) (by decide) (by decide) (Nat.le_of_ble_eq_true rfl) (Nat.le_of_ble_eq_true rfl) dX0_init_39 (fun n5 H hW => ?_)
  have hW : WS G B s [(q0, .inr (0, [.ref n1, .ref n2, .ref n3, .ref n4, .null, .null, .null, .null, .int 0])), (n1, .inl (G.2.1 0, 24, .inl (fun _ => 0))), (n2, .inl (G.2.1 0, 24, .inl (fun _ => 0))), (n3, .inl (G.2.1 0, 24, .inl (fun _ => 0))), (n4, .inl (G.2.1 0, 24, .inl (fun _ => 0))), (n5, .inl (G.2.1 0, 24, .inl (fun _ => 0)))] H _ := hW
  refine x_putF (T := TX0) (k := 4) (v := .ref n5) (ty := .array .int) (ws0 := [(q0, .inr (0, [.ref n1, .ref n2, .ref n3, .ref n4, .ref n5, .null, .null, .null, .int 0])), (n1, .inl (G.2.1 0, 24, .inl (fun _ => 0))), (n2, .inl (G.2.1 0, 24, .inl (fun _ => 0))), (n3, .inl (G.2.1 0, 24, .inl (fun _ => 0))), (n4, .inl (G.2.1 0, 24, .inl (fun _ => 0))), (n5, .inl (G.2.1 0, 24, .inl (fun _ => 0)))]) S hin hW 0 rfl rfl giX0 tyX0 tyX0_ok nmX0 (Nat.le_of_ble_eq_true rfl) lk_X0_24 rfl rfl rfl (by decide +kernel) rfl rfl (Nat.le_of_ble_eq_true rfl) rfl dX0_init_41 (fun H locs hW => ?_)
  refine lv_aload_n hx hb dX0_init_44 rfl (lv_at hl 0 rfl) ?_
  refine lv_bipush (v := 24) hx hb dX0_init_45 (by decide) ?_
  refine x_newI (N' := 24) S hW (by decide) (by decide) (by decide) (Nat.le_of_ble_eq_true rfl) (Nat.le_of_ble_eq_true rfl) dX0_init_47 (fun n6 H hW => ?_)
  have hW : WS G B s [(q0, .inr (0, [.ref n1, .ref n2, .ref n3, .ref n4, .ref n5, .null, .null, .null, .int 0])), (n1, .inl (G.2.1 0, 24, .inl (fun _ => 0))), (n2, .inl (G.2.1 0, 24, .inl (fun _ => 0))), (n3, .inl (G.2.1 0, 24, .inl (fun _ => 0))), (n4, .inl (G.2.1 0, 24, .inl (fun _ => 0))), (n5, .inl (G.2.1 0, 24, .inl (fun _ => 0))), (n6, .inl (G.2.1 0, 24, .inl (fun _ => 0)))] H _ := hW
  refine x_putF (T := TX0) (k := 5) (v := .ref n6) (ty := .array .int) (ws0 := [(q0, .inr (0, [.ref n1, .ref n2, .ref n3, .ref n4, .ref n5, .ref n6, .null, .null, .int 0])), (n1, .inl (G.2.1 0, 24, .inl (fun _ => 0))), (n2, .inl (G.2.1 0, 24, .inl (fun _ => 0))), (n3, .inl (G.2.1 0, 24, .inl (fun _ => 0))), (n4, .inl (G.2.1 0, 24, .inl (fun _ => 0))), (n5, .inl (G.2.1 0, 24, .inl (fun _ => 0))), (n6, .inl (G.2.1 0, 24, .inl (fun _ => 0)))]) S hin hW 0 rfl rfl giX0 tyX0 tyX0_ok nmX0 (Nat.le_of_ble_eq_true rfl) lk_X0_27 rfl rfl rfl (by decide +kernel) rfl rfl (Nat.le_of_ble_eq_true rfl) rfl dX0_init_49 (fun H locs hW => ?_)
  refine lv_aload_n hx hb dX0_init_52 rfl (lv_at hl 0 rfl) ?_
  refine lv_bipush (v := 24) hx hb dX0_init_53 (by decide) ?_
  refine x_newI (N' := 24) S hW (by decide) (by decide) (by decide) (Nat.le_of_ble_eq_true rfl) (Nat.le_of_ble_eq_true rfl) dX0_init_55 (fun n7 H hW => ?_)
  have hW : WS G B s [(q0, .inr (0, [.ref n1, .ref n2, .ref n3, .ref n4, .ref n5, .ref n6, .null, .null, .int 0])), (n1, .inl (G.2.1 0, 24, .inl (fun _ => 0))), (n2, .inl (G.2.1 0, 24, .inl (fun _ => 0))), (n3, .inl (G.2.1 0, 24, .inl (fun _ => 0))), (n4, .inl (G.2.1 0, 24, .inl (fun _ => 0))), (n5, .inl (G.2.1 0, 24, .inl (fun _ => 0))), (n6, .inl (G.2.1 0, 24, .inl (fun _ => 0))), (n7, .inl (G.2.1 0, 24, .inl (fun _ => 0)))] H _ := hW
  refine x_putF (T := TX0) (k := 6) (v := .ref n7) (ty := .array .int) (ws0 := [(q0, .inr (0, [.ref n1, .ref n2, .ref n3, .ref n4, .ref n5, .ref n6, .ref n7, .null, .int 0])), (n1, .inl (G.2.1 0, 24, .inl (fun _ => 0))), (n2, .inl (G.2.1 0, 24, .inl (fun _ => 0))), (n3, .inl (G.2.1 0, 24, .inl (fun _ => 0))), (n4, .inl (G.2.1 0, 24, .inl (fun _ => 0))), (n5, .inl (G.2.1 0, 24, .inl (fun _ => 0))), (n6, .inl (G.2.1 0, 24, .inl (fun _ => 0))), (n7, .inl (G.2.1 0, 24, .inl (fun _ => 0)))]) S hin hW 0 rfl rfl giX0 tyX0 tyX0_ok nmX0 (Nat.le_of_ble_eq_true rfl) lk_X0_30 rfl rfl rfl (by decide +kernel) rfl rfl (Nat.le_of_ble_eq_true rfl) rfl dX0_init_57 (fun H locs hW => ?_)
  refine lv_aload_n hx hb dX0_init_60 rfl (lv_at hl 0 rfl) ?_
  refine lv_bipush (v := 24) hx hb dX0_init_61 (by decide) ?_
  refine x_newI (N' := 24) S hW (by decide) (by decide) (by decide) (Nat.le_of_ble_eq_true rfl) (Nat.le_of_ble_eq_true rfl) dX0_init_63 (fun n8 H hW => ?_)
  have hW : WS G B s [(q0, .inr (0, [.ref n1, .ref n2, .ref n3, .ref n4, .ref n5, .ref n6, .ref n7, .null, .int 0])), (n1, .inl (G.2.1 0, 24, .inl (fun _ => 0))), (n2, .inl (G.2.1 0, 24, .inl (fun _ => 0))), (n3, .inl (G.2.1 0, 24, .inl (fun _ => 0))), (n4, .inl (G.2.1 0, 24, .inl (fun _ => 0))), (n5, .inl (G.2.1 0, 24, .inl (fun _ => 0))), (n6, .inl (G.2.1 0, 24, .inl (fun _ => 0))), (n7, .inl (G.2.1 0, 24, .inl (fun _ => 0))), (n8, .inl (G.2.1 0, 24, .inl (fun _ => 0)))] H _ := hW
  refine x_putF (T := TX0) (k := 7) (v := .ref n8) (ty := .array .int) (ws0 := [(q0, .inr (0, [.ref n1, .ref n2, .ref n3, .ref n4, .ref n5, .ref n6, .ref n7, .ref n8, .int 0])), (n1, .inl (G.2.1 0, 24, .inl (fun _ => 0))), (n2, .inl (G.2.1 0, 24, .inl (fun _ => 0))), (n3, .inl (G.2.1 0, 24, .inl (fun _ => 0))), (n4, .inl (G.2.1 0, 24, .inl (fun _ => 0))), (n5, .inl (G.2.1 0, 24, .inl (fun _ => 0))), (n6, .inl (G.2.1 0, 24, .inl (fun _ => 0))), (n7, .inl (G.2.1 0, 24, .inl (fun _ => 0))), (n8, .inl (G.2.1 0, 24, .inl (fun _ => 0)))]) S hin hW 0 rfl rfl giX0 tyX0 tyX0_ok nmX0 (Nat.le_of_ble_eq_true rfl) lk_X0_33 rfl rfl rfl (by decide +kernel) rfl rfl (Nat.le_of_ble_eq_true rfl) rfl dX0_init_65 (fun H locs hW => ?_)
  refine lv_aload_n hx hb dX0_init_68 rfl (lv_at hl 0 rfl) ?_
  refine lv_iconst (v := 0) hx hb dX0_init_69 (by decide) ?_
  refine x_put (T := TX0) (k := 8) (v := .int 0) (ty := .int) (ws0 := [(q0, .inr (0, [.ref n1, .ref n2, .ref n3, .ref n4, .ref n5, .ref n6, .ref n7, .ref n8, .int 0])), (n1, .inl (G.2.1 0, 24, .inl (fun _ => 0))), (n2, .inl (G.2.1 0, 24, .inl (fun _ => 0))), (n3, .inl (G.2.1 0, 24, .inl (fun _ => 0))), (n4, .inl (G.2.1 0, 24, .inl (fun _ => 0))), (n5, .inl (G.2.1 0, 24, .inl (fun _ => 0))), (n6, .inl (G.2.1 0, 24, .inl (fun _ => 0))), (n7, .inl (G.2.1 0, 24, .inl (fun _ => 0))), (n8, .inl (G.2.1 0, 24, .inl (fun _ => 0)))]) S hW 0 rfl rfl giX0 tyX0 tyX0_ok nmX0 (Nat.le_of_ble_eq_true rfl) lk_X0_36 rfl rfl (by decide +kernel) rfl rfl (Nat.le_of_ble_eq_true rfl) rfl dX0_init_70 (fun H locs hW => ?_)
  exact hret H _ _ ls (fun k => [n1, n2, n3, n4, n5, n6, n7, n8].getD k 0) hW dX0_init_73
def rmcX1 : Room := { frames := 1, cells := 1, slots := 30, locals := 12 }
theorem mn_X1 : MN yX1_init cX1_init 2 1 := ⟨im_X1_init, in_X1, co_X1_init, rfl, by decide, by decide, by decide +kernel⟩
set_option maxRecDepth 100000 in
set_option maxHeartbeats 4000000 in
theorem cn_X1 (l : Launch) (G : EN) (sz : Nat) (q0 t1 : Nat) : CN l yX1_init cX1_init 2 rmcX1 G sz [.ref q0, .ref t1] [(q0, .inr (1, [.null, .null, .int 0, .int 0]))] (fun u => [(q0, .inr (1, [.ref t1, .ref (u 0), .int 0, .int 0])), ((u 0), .inl (G.2.1 0, 30, .inl (fun _ => 0)))]) 1 30 := by
  refine CN.intro (lv := [(0, .ref q0), (1, .ref t1)]) (by decide) rfl (Nat.le_of_ble_eq_true rfl) rfl ?_
  intro p e s m args below meth c Q B S hin hret hNX H locs ls hW hl
  have hx := S.1
  have hb := S.2.1
  refine lv_aload_n hx hb dX1_init_0 rfl (lv_at hl 0 rfl) ?_
  refine x_super (rest := []) S hl lk_X1_3 rfl dX1_init_1 ⟨Nat.le_of_ble_eq_true rfl, Nat.le_of_ble_eq_true rfl⟩ ?_
  refine lv_aload_n hx hb dX1_init_4 rfl (lv_at hl 0 rfl) ?_
  refine lv_bipush (v := 30) hx hb dX1_init_5 (by decide) ?_
  refine x_newI (N' := 30) S hW (by decide) (by decide) (by decide) (Nat.le_of_ble_eq_true rfl) (Nat.le_of_ble_eq_true rfl) dX1_init_7 (fun n1 H hW => ?_)
  have hW : WS G B s [(q0, .inr (1, [.null, .null, .int 0, .int 0])), (n1, .inl (G.2.1 0, 30, .inl (fun _ => 0)))] H _ := hW
  refine x_putF (T := TX1) (k := 1) (v := .ref n1) (ty := .array .int) (ws0 := [(q0, .inr (1, [.null, .ref n1, .int 0, .int 0])), (n1, .inl (G.2.1 0, 30, .inl (fun _ => 0)))]) S hin hW 0 rfl rfl giX1 tyX1 tyX1_ok nmX1 (Nat.le_of_ble_eq_true rfl) lk_X1_9 rfl rfl rfl (by decide +kernel) rfl rfl (Nat.le_of_ble_eq_true rfl) rfl dX1_init_9 (fun H locs hW => ?_)
  refine lv_aload_n hx hb dX1_init_12 rfl (lv_at hl 0 rfl) ?_
  refine lv_iconst (v := 0) hx hb dX1_init_13 (by decide) ?_
  refine x_put (T := TX1) (k := 2) (v := .int 0) (ty := .int) (ws0 := [(q0, .inr (1, [.null, .ref n1, .int 0, .int 0])), (n1, .inl (G.2.1 0, 30, .inl (fun _ => 0)))]) S hW 0 rfl rfl giX1 tyX1 tyX1_ok nmX1 (Nat.le_of_ble_eq_true rfl) lk_X1_15 rfl rfl (by decide +kernel) rfl rfl (Nat.le_of_ble_eq_true rfl) rfl dX1_init_14 (fun H locs hW => ?_)
  refine lv_aload_n hx hb dX1_init_17 rfl (lv_at hl 0 rfl) ?_
  refine lv_iconst (v := 0) hx hb dX1_init_18 (by decide) ?_
  refine x_put (T := TX1) (k := 3) (v := .int 0) (ty := .boolean) (ws0 := [(q0, .inr (1, [.null, .ref n1, .int 0, .int 0])), (n1, .inl (G.2.1 0, 30, .inl (fun _ => 0)))]) S hW 0 rfl rfl giX1 tyX1 tyX1_ok nmX1 (Nat.le_of_ble_eq_true rfl) lk_X1_19 rfl rfl (by decide +kernel) rfl rfl (Nat.le_of_ble_eq_true rfl) rfl dX1_init_19 (fun H locs hW => ?_)
  refine lv_aload_n hx hb dX1_init_22 rfl (lv_at hl 0 rfl) ?_
  refine lv_aload_n hx hb dX1_init_23 rfl (lv_at hl 1 rfl) ?_
  refine x_putF (T := TX1) (k := 0) (v := .ref t1) (ty := .object "PlanLandmarks$ActionTable") (ws0 := [(q0, .inr (1, [.ref t1, .ref n1, .int 0, .int 0])), (n1, .inl (G.2.1 0, 30, .inl (fun _ => 0)))]) S hin hW 0 rfl rfl giX1 tyX1 tyX1_ok nmX1 (Nat.le_of_ble_eq_true rfl) lk_X1_23 rfl rfl rfl (by decide +kernel) rfl rfl (Nat.le_of_ble_eq_true rfl) rfl dX1_init_24 (fun H locs hW => ?_)
  exact hret H _ _ ls (fun k => [n1].getD k 0) hW dX1_init_27
def rmcX3 : Room := { frames := 1, cells := 1, slots := 31, locals := 12 }
theorem mn_X3 : MN yX3_init cX3_init 2 1 := ⟨im_X3_init, in_X3, co_X3_init, rfl, by decide, by decide, by decide +kernel⟩
set_option maxRecDepth 100000 in
set_option maxHeartbeats 4000000 in
theorem cn_X3 (l : Launch) (G : EN) (sz : Nat) (q0 t1 : Nat) : CN l yX3_init cX3_init 2 rmcX3 G sz [.ref q0, .ref t1] [(q0, .inr (3, [.null, .null, .int 0]))] (fun u => [(q0, .inr (3, [.ref t1, .ref (u 0), .int 0])), ((u 0), .inl (G.2.1 0, 31, .inl (fun _ => 0)))]) 1 31 := by
  refine CN.intro (lv := [(0, .ref q0), (1, .ref t1)]) (by decide) rfl (Nat.le_of_ble_eq_true rfl) rfl ?_
  intro p e s m args below meth c Q B S hin hret hNX H locs ls hW hl
  have hx := S.1
  have hb := S.2.1
  refine lv_aload_n hx hb dX3_init_0 rfl (lv_at hl 0 rfl) ?_
  refine x_super (rest := []) S hl lk_X3_3 rfl dX3_init_1 ⟨Nat.le_of_ble_eq_true rfl, Nat.le_of_ble_eq_true rfl⟩ ?_
  refine lv_aload_n hx hb dX3_init_4 rfl (lv_at hl 0 rfl) ?_
  refine lv_bipush (v := 31) hx hb dX3_init_5 (by decide) ?_
  refine x_newI (N' := 31) S hW (by decide) (by decide) (by decide) (Nat.le_of_ble_eq_true rfl) (Nat.le_of_ble_eq_true rfl) dX3_init_7 (fun n1 H hW => ?_)
  have hW : WS G B s [(q0, .inr (3, [.null, .null, .int 0])), (n1, .inl (G.2.1 0, 31, .inl (fun _ => 0)))] H _ := hW
  refine x_putF (T := TX3) (k := 1) (v := .ref n1) (ty := .array .int) (ws0 := [(q0, .inr (3, [.null, .ref n1, .int 0])), (n1, .inl (G.2.1 0, 31, .inl (fun _ => 0)))]) S hin hW 0 rfl rfl giX3 tyX3 tyX3_ok nmX3 (Nat.le_of_ble_eq_true rfl) lk_X3_9 rfl rfl rfl (by decide +kernel) rfl rfl (Nat.le_of_ble_eq_true rfl) rfl dX3_init_9 (fun H locs hW => ?_)
  refine lv_aload_n hx hb dX3_init_12 rfl (lv_at hl 0 rfl) ?_
  refine lv_iconst (v := 0) hx hb dX3_init_13 (by decide) ?_
  refine x_put (T := TX3) (k := 2) (v := .int 0) (ty := .int) (ws0 := [(q0, .inr (3, [.null, .ref n1, .int 0])), (n1, .inl (G.2.1 0, 31, .inl (fun _ => 0)))]) S hW 0 rfl rfl giX3 tyX3 tyX3_ok nmX3 (Nat.le_of_ble_eq_true rfl) lk_X3_15 rfl rfl (by decide +kernel) rfl rfl (Nat.le_of_ble_eq_true rfl) rfl dX3_init_14 (fun H locs hW => ?_)
  refine lv_aload_n hx hb dX3_init_17 rfl (lv_at hl 0 rfl) ?_
  refine lv_aload_n hx hb dX3_init_18 rfl (lv_at hl 1 rfl) ?_
  refine x_putF (T := TX3) (k := 0) (v := .ref t1) (ty := .object "PlanLandmarks$ActionTable") (ws0 := [(q0, .inr (3, [.ref t1, .ref n1, .int 0])), (n1, .inl (G.2.1 0, 31, .inl (fun _ => 0)))]) S hin hW 0 rfl rfl giX3 tyX3 tyX3_ok nmX3 (Nat.le_of_ble_eq_true rfl) lk_X3_19 rfl rfl rfl (by decide +kernel) rfl rfl (Nat.le_of_ble_eq_true rfl) rfl dX3_init_19 (fun H locs hW => ?_)
  exact hret H _ _ ls (fun k => [n1].getD k 0) hW dX3_init_22
def rmcX4 : Room := { frames := 1, cells := 4, slots := 1200, locals := 12 }
theorem mn_X4 : MN yX4_init cX4_init 3 2 := ⟨im_X4_init, in_X4, co_X4_init, rfl, by decide, by decide, by decide +kernel⟩
set_option maxRecDepth 100000 in
set_option maxHeartbeats 4000000 in
theorem cn_X4 (l : Launch) (G : EN) (sz : Nat) (q0 t1 t2 : Nat) : CN l yX4_init cX4_init 3 rmcX4 G sz [.ref q0, .ref t1, .ref t2] [(q0, .inr (4, [.null, .null, .null, .null, .null, .null, .int 0, .int 0, .int 0, .int 0, .int 0, .int 0]))] (fun u => [(q0, .inr (4, [.ref t1, .ref t2, .ref (u 0), .ref (u 1), .ref (u 2), .ref (u 3), .int 0, .int 0, .int 0, .int 0, .int 0, .int 0])), ((u 0), .inl (G.2.1 0, 300, .inl (fun _ => 0))), ((u 1), .inl (G.2.1 0, 300, .inl (fun _ => 0))), ((u 2), .inl (G.2.1 2, 300, .inl (fun _ => 0))), ((u 3), .inl (G.2.1 0, 300, .inl (fun _ => 0)))]) 4 1200 := by
  refine CN.intro (lv := [(0, .ref q0), (1, .ref t1), (2, .ref t2)]) (by decide) rfl (Nat.le_of_ble_eq_true rfl) rfl ?_
  intro p e s m args below meth c Q B S hin hret hNX H locs ls hW hl
  have hx := S.1
  have hb := S.2.1
  refine lv_aload_n hx hb dX4_init_0 rfl (lv_at hl 0 rfl) ?_
  refine x_super (rest := []) S hl lk_X4_3 rfl dX4_init_1 ⟨Nat.le_of_ble_eq_true rfl, Nat.le_of_ble_eq_true rfl⟩ ?_
  refine lv_aload_n hx hb dX4_init_4 rfl (lv_at hl 0 rfl) ?_
  refine lv_sipush (v := 300) hx hb dX4_init_5 (by decide) ?_
  refine x_newI (N' := 300) S hW (by decide) (by decide) (by decide) (Nat.le_of_ble_eq_true rfl) (Nat.le_of_ble_eq_true rfl) dX4_init_8 (fun n1 H hW => ?_)
  have hW : WS G B s [(q0, .inr (4, [.null, .null, .null, .null, .null, .null, .int 0, .int 0, .int 0, .int 0, .int 0, .int 0])), (n1, .inl (G.2.1 0, 300, .inl (fun _ => 0)))] H _ := hW
  refine x_putF (T := TX4) (k := 2) (v := .ref n1) (ty := .array .int) (ws0 := [(q0, .inr (4, [.null, .null, .ref n1, .null, .null, .null, .int 0, .int 0, .int 0, .int 0, .int 0, .int 0])), (n1, .inl (G.2.1 0, 300, .inl (fun _ => 0)))]) S hin hW 0 rfl rfl giX4 tyX4 tyX4_ok nmX4 (Nat.le_of_ble_eq_true rfl) lk_X4_9 rfl rfl rfl (by decide +kernel) rfl rfl (Nat.le_of_ble_eq_true rfl) rfl dX4_init_10 (fun H locs hW => ?_)
  refine lv_aload_n hx hb dX4_init_13 rfl (lv_at hl 0 rfl) ?_
  refine lv_sipush (v := 300) hx hb dX4_init_14 (by decide) ?_
  refine x_newI (N' := 300) S hW (by decide) (by decide) (by decide) (Nat.le_of_ble_eq_true rfl) (Nat.le_of_ble_eq_true rfl) dX4_init_17 (fun n2 H hW => ?_)
  have hW : WS G B s [(q0, .inr (4, [.null, .null, .ref n1, .null, .null, .null, .int 0, .int 0, .int 0, .int 0, .int 0, .int 0])), (n1, .inl (G.2.1 0, 300, .inl (fun _ => 0))), (n2, .inl (G.2.1 0, 300, .inl (fun _ => 0)))] H _ := hW
  refine x_putF (T := TX4) (k := 3) (v := .ref n2) (ty := .array .int) (ws0 := [(q0, .inr (4, [.null, .null, .ref n1, .ref n2, .null, .null, .int 0, .int 0, .int 0, .int 0, .int 0, .int 0])), (n1, .inl (G.2.1 0, 300, .inl (fun _ => 0))), (n2, .inl (G.2.1 0, 300, .inl (fun _ => 0)))]) S hin hW 0 rfl rfl giX4 tyX4 tyX4_ok nmX4 (Nat.le_of_ble_eq_true rfl) lk_X4_15 rfl rfl rfl (by decide +kernel) rfl rfl (Nat.le_of_ble_eq_true rfl) rfl dX4_init_19 (fun H locs hW => ?_)
  refine lv_aload_n hx hb dX4_init_22 rfl (lv_at hl 0 rfl) ?_
  refine lv_sipush (v := 300) hx hb dX4_init_23 (by decide) ?_
  refine x_newZ (N' := 300) S hW (by decide) (by decide) (by decide) (Nat.le_of_ble_eq_true rfl) (Nat.le_of_ble_eq_true rfl) dX4_init_26 (fun n3 H hW => ?_)
  have hW : WS G B s [(q0, .inr (4, [.null, .null, .ref n1, .ref n2, .null, .null, .int 0, .int 0, .int 0, .int 0, .int 0, .int 0])), (n1, .inl (G.2.1 0, 300, .inl (fun _ => 0))), (n2, .inl (G.2.1 0, 300, .inl (fun _ => 0))), (n3, .inl (G.2.1 2, 300, .inl (fun _ => 0)))] H _ := hW
  refine x_putF (T := TX4) (k := 4) (v := .ref n3) (ty := .array .boolean) (ws0 := [(q0, .inr (4, [.null, .null, .ref n1, .ref n2, .ref n3, .null, .int 0, .int 0, .int 0, .int 0, .int 0, .int 0])), (n1, .inl (G.2.1 0, 300, .inl (fun _ => 0))), (n2, .inl (G.2.1 0, 300, .inl (fun _ => 0))), (n3, .inl (G.2.1 2, 300, .inl (fun _ => 0)))]) S hin hW 0 rfl rfl giX4 tyX4 tyX4_ok nmX4 (Nat.le_of_ble_eq_true rfl) lk_X4_18 rfl rfl rfl (by decide +kernel) rfl rfl (Nat.le_of_ble_eq_true rfl) rfl dX4_init_28 (fun H locs hW => ?_)
  refine lv_aload_n hx hb dX4_init_31 rfl (lv_at hl 0 rfl) ?_
  refine lv_sipush (v := 300) hx hb dX4_init_32 (by decide) ?_
  refine x_newI (N' := 300) S hW (by decide) (by decide) (by decide) (Nat.le_of_ble_eq_true rfl) (Nat.le_of_ble_eq_true rfl) dX4_init_35 (fun n4 H hW => ?_)
  have hW : WS G B s [(q0, .inr (4, [.null, .null, .ref n1, .ref n2, .ref n3, .null, .int 0, .int 0, .int 0, .int 0, .int 0, .int 0])), (n1, .inl (G.2.1 0, 300, .inl (fun _ => 0))), (n2, .inl (G.2.1 0, 300, .inl (fun _ => 0))), (n3, .inl (G.2.1 2, 300, .inl (fun _ => 0))), (n4, .inl (G.2.1 0, 300, .inl (fun _ => 0)))] H _ := hW
  refine x_putF (T := TX4) (k := 5) (v := .ref n4) (ty := .array .int) (ws0 := [(q0, .inr (4, [.null, .null, .ref n1, .ref n2, .ref n3, .ref n4, .int 0, .int 0, .int 0, .int 0, .int 0, .int 0])), (n1, .inl (G.2.1 0, 300, .inl (fun _ => 0))), (n2, .inl (G.2.1 0, 300, .inl (fun _ => 0))), (n3, .inl (G.2.1 2, 300, .inl (fun _ => 0))), (n4, .inl (G.2.1 0, 300, .inl (fun _ => 0)))]) S hin hW 0 rfl rfl giX4 tyX4 tyX4_ok nmX4 (Nat.le_of_ble_eq_true rfl) lk_X4_22 rfl rfl rfl (by decide +kernel) rfl rfl (Nat.le_of_ble_eq_true rfl) rfl dX4_init_37 (fun H locs hW => ?_)
  refine lv_aload_n hx hb dX4_init_40 rfl (lv_at hl 0 rfl) ?_
  refine lv_iconst (v := 0) hx hb dX4_init_41 (by decide) ?_
  refine x_put (T := TX4) (k := 6) (v := .int 0) (ty := .int) (ws0 := [(q0, .inr (4, [.null, .null, .ref n1, .ref n2, .ref n3, .ref n4, .int 0, .int 0, .int 0, .int 0, .int 0, .int 0])), (n1, .inl (G.2.1 0, 300, .inl (fun _ => 0))), (n2, .inl (G.2.1 0, 300, .inl (fun _ => 0))), (n3, .inl (G.2.1 2, 300, .inl (fun _ => 0))), (n4, .inl (G.2.1 0, 300, .inl (fun _ => 0)))]) S hW 0 rfl rfl giX4 tyX4 tyX4_ok nmX4 (Nat.le_of_ble_eq_true rfl) lk_X4_25 rfl rfl (by decide +kernel) rfl rfl (Nat.le_of_ble_eq_true rfl) rfl dX4_init_42 (fun H locs hW => ?_)
  refine lv_aload_n hx hb dX4_init_45 rfl (lv_at hl 0 rfl) ?_
  refine lv_iconst (v := 0) hx hb dX4_init_46 (by decide) ?_
  refine x_put (T := TX4) (k := 7) (v := .int 0) (ty := .boolean) (ws0 := [(q0, .inr (4, [.null, .null, .ref n1, .ref n2, .ref n3, .ref n4, .int 0, .int 0, .int 0, .int 0, .int 0, .int 0])), (n1, .inl (G.2.1 0, 300, .inl (fun _ => 0))), (n2, .inl (G.2.1 0, 300, .inl (fun _ => 0))), (n3, .inl (G.2.1 2, 300, .inl (fun _ => 0))), (n4, .inl (G.2.1 0, 300, .inl (fun _ => 0)))]) S hW 0 rfl rfl giX4 tyX4 tyX4_ok nmX4 (Nat.le_of_ble_eq_true rfl) lk_X4_29 rfl rfl (by decide +kernel) rfl rfl (Nat.le_of_ble_eq_true rfl) rfl dX4_init_47 (fun H locs hW => ?_)
  refine lv_aload_n hx hb dX4_init_50 rfl (lv_at hl 0 rfl) ?_
  refine lv_iconst (v := 0) hx hb dX4_init_51 (by decide) ?_
  refine x_put (T := TX4) (k := 8) (v := .int 0) (ty := .boolean) (ws0 := [(q0, .inr (4, [.null, .null, .ref n1, .ref n2, .ref n3, .ref n4, .int 0, .int 0, .int 0, .int 0, .int 0, .int 0])), (n1, .inl (G.2.1 0, 300, .inl (fun _ => 0))), (n2, .inl (G.2.1 0, 300, .inl (fun _ => 0))), (n3, .inl (G.2.1 2, 300, .inl (fun _ => 0))), (n4, .inl (G.2.1 0, 300, .inl (fun _ => 0)))]) S hW 0 rfl rfl giX4 tyX4 tyX4_ok nmX4 (Nat.le_of_ble_eq_true rfl) lk_X4_33 rfl rfl (by decide +kernel) rfl rfl (Nat.le_of_ble_eq_true rfl) rfl dX4_init_52 (fun H locs hW => ?_)
  refine lv_aload_n hx hb dX4_init_55 rfl (lv_at hl 0 rfl) ?_
  refine lv_iconst (v := 0) hx hb dX4_init_56 (by decide) ?_
  refine x_put (T := TX4) (k := 9) (v := .int 0) (ty := .boolean) (ws0 := [(q0, .inr (4, [.null, .null, .ref n1, .ref n2, .ref n3, .ref n4, .int 0, .int 0, .int 0, .int 0, .int 0, .int 0])), (n1, .inl (G.2.1 0, 300, .inl (fun _ => 0))), (n2, .inl (G.2.1 0, 300, .inl (fun _ => 0))), (n3, .inl (G.2.1 2, 300, .inl (fun _ => 0))), (n4, .inl (G.2.1 0, 300, .inl (fun _ => 0)))]) S hW 0 rfl rfl giX4 tyX4 tyX4_ok nmX4 (Nat.le_of_ble_eq_true rfl) lk_X4_36 rfl rfl (by decide +kernel) rfl rfl (Nat.le_of_ble_eq_true rfl) rfl dX4_init_57 (fun H locs hW => ?_)
  refine lv_aload_n hx hb dX4_init_60 rfl (lv_at hl 0 rfl) ?_
  refine lv_iconst (v := 0) hx hb dX4_init_61 (by decide) ?_
  refine x_put (T := TX4) (k := 10) (v := .int 0) (ty := .int) (ws0 := [(q0, .inr (4, [.null, .null, .ref n1, .ref n2, .ref n3, .ref n4, .int 0, .int 0, .int 0, .int 0, .int 0, .int 0])), (n1, .inl (G.2.1 0, 300, .inl (fun _ => 0))), (n2, .inl (G.2.1 0, 300, .inl (fun _ => 0))), (n3, .inl (G.2.1 2, 300, .inl (fun _ => 0))), (n4, .inl (G.2.1 0, 300, .inl (fun _ => 0)))]) S hW 0 rfl rfl giX4 tyX4 tyX4_ok nmX4 (Nat.le_of_ble_eq_true rfl) lk_X4_39 rfl rfl (by decide +kernel) rfl rfl (Nat.le_of_ble_eq_true rfl) rfl dX4_init_62 (fun H locs hW => ?_)
  refine lv_aload_n hx hb dX4_init_65 rfl (lv_at hl 0 rfl) ?_
  refine lv_iconst (v := 0) hx hb dX4_init_66 (by decide) ?_
  refine x_put (T := TX4) (k := 11) (v := .int 0) (ty := .int) (ws0 := [(q0, .inr (4, [.null, .null, .ref n1, .ref n2, .ref n3, .ref n4, .int 0, .int 0, .int 0, .int 0, .int 0, .int 0])), (n1, .inl (G.2.1 0, 300, .inl (fun _ => 0))), (n2, .inl (G.2.1 0, 300, .inl (fun _ => 0))), (n3, .inl (G.2.1 2, 300, .inl (fun _ => 0))), (n4, .inl (G.2.1 0, 300, .inl (fun _ => 0)))]) S hW 0 rfl rfl giX4 tyX4 tyX4_ok nmX4 (Nat.le_of_ble_eq_true rfl) lk_X4_42 rfl rfl (by decide +kernel) rfl rfl (Nat.le_of_ble_eq_true rfl) rfl dX4_init_67 (fun H locs hW => ?_)
  refine lv_aload_n hx hb dX4_init_70 rfl (lv_at hl 0 rfl) ?_
  refine lv_aload_n hx hb dX4_init_71 rfl (lv_at hl 1 rfl) ?_
  refine x_putF (T := TX4) (k := 0) (v := .ref t1) (ty := .object "PlanLandmarks$ActionTable") (ws0 := [(q0, .inr (4, [.ref t1, .null, .ref n1, .ref n2, .ref n3, .ref n4, .int 0, .int 0, .int 0, .int 0, .int 0, .int 0])), (n1, .inl (G.2.1 0, 300, .inl (fun _ => 0))), (n2, .inl (G.2.1 0, 300, .inl (fun _ => 0))), (n3, .inl (G.2.1 2, 300, .inl (fun _ => 0))), (n4, .inl (G.2.1 0, 300, .inl (fun _ => 0)))]) S hin hW 0 rfl rfl giX4 tyX4 tyX4_ok nmX4 (Nat.le_of_ble_eq_true rfl) lk_X4_45 rfl rfl rfl (by decide +kernel) rfl rfl (Nat.le_of_ble_eq_true rfl) rfl dX4_init_72 (fun H locs hW => ?_)
  refine lv_aload_n hx hb dX4_init_75 rfl (lv_at hl 0 rfl) ?_
  refine lv_aload_n hx hb dX4_init_76 rfl (lv_at hl 2 rfl) ?_
  refine x_putF (T := TX4) (k := 1) (v := .ref t2) (ty := .object "PlanLandmarks$Reach") (ws0 := [(q0, .inr (4, [.ref t1, .ref t2, .ref n1, .ref n2, .ref n3, .ref n4, .int 0, .int 0, .int 0, .int 0, .int 0, .int 0])), (n1, .inl (G.2.1 0, 300, .inl (fun _ => 0))), (n2, .inl (G.2.1 0, 300, .inl (fun _ => 0))), (n3, .inl (G.2.1 2, 300, .inl (fun _ => 0))), (n4, .inl (G.2.1 0, 300, .inl (fun _ => 0)))]) S hin hW 0 rfl rfl giX4 tyX4 tyX4_ok nmX4 (Nat.le_of_ble_eq_true rfl) lk_X4_49 rfl rfl rfl (by decide +kernel) rfl rfl (Nat.le_of_ble_eq_true rfl) rfl dX4_init_77 (fun H locs hW => ?_)
  exact hret H _ _ ls (fun k => [n1, n2, n3, n4].getD k 0) hW dX4_init_80
def rmcX5 : Room := { frames := 1, cells := 0, slots := 0, locals := 12 }
theorem mn_X5 : MN yX5_init cX5_init 1 0 := ⟨im_X5_init, in_X5, co_X5_init, rfl, by decide, by decide, by decide +kernel⟩
set_option maxRecDepth 100000 in
set_option maxHeartbeats 4000000 in
theorem cn_X5 (l : Launch) (G : EN) (sz : Nat) (q0 : Nat) : CN l yX5_init cX5_init 1 rmcX5 G sz [.ref q0] [(q0, .inr (5, [.int 0, .int 0, .int 0, .int 0, .int 0, .int 0]))] (fun u => [(q0, .inr (5, [.int 0, .int 0, .int 0, .int 0, .int 0, .int 0]))]) 0 0 := by
  refine CN.intro (lv := [(0, .ref q0)]) (by decide) rfl (Nat.le_of_ble_eq_true rfl) rfl ?_
  intro p e s m args below meth c Q B S hin hret hNX H locs ls hW hl
  have hx := S.1
  have hb := S.2.1
  refine lv_aload_n hx hb dX5_init_0 rfl (lv_at hl 0 rfl) ?_
  refine x_super (rest := []) S hl lk_X5_1 rfl dX5_init_1 ⟨Nat.le_of_ble_eq_true rfl, Nat.le_of_ble_eq_true rfl⟩ ?_
  refine lv_aload_n hx hb dX5_init_4 rfl (lv_at hl 0 rfl) ?_
  refine lv_iconst (v := 0) hx hb dX5_init_5 (by decide) ?_
  refine x_put (T := TX5) (k := 0) (v := .int 0) (ty := .boolean) (ws0 := [(q0, .inr (5, [.int 0, .int 0, .int 0, .int 0, .int 0, .int 0]))]) S hW 0 rfl rfl giX5 tyX5 tyX5_ok nmX5 (Nat.le_of_ble_eq_true rfl) lk_X5_7 rfl rfl (by decide +kernel) rfl rfl (Nat.le_of_ble_eq_true rfl) rfl dX5_init_6 (fun H locs hW => ?_)
  refine lv_aload_n hx hb dX5_init_9 rfl (lv_at hl 0 rfl) ?_
  refine lv_iconst (v := 0) hx hb dX5_init_10 (by decide) ?_
  refine x_put (T := TX5) (k := 1) (v := .int 0) (ty := .int) (ws0 := [(q0, .inr (5, [.int 0, .int 0, .int 0, .int 0, .int 0, .int 0]))]) S hW 0 rfl rfl giX5 tyX5 tyX5_ok nmX5 (Nat.le_of_ble_eq_true rfl) lk_X5_13 rfl rfl (by decide +kernel) rfl rfl (Nat.le_of_ble_eq_true rfl) rfl dX5_init_11 (fun H locs hW => ?_)
  refine lv_aload_n hx hb dX5_init_14 rfl (lv_at hl 0 rfl) ?_
  refine lv_iconst (v := 0) hx hb dX5_init_15 (by decide) ?_
  refine x_put (T := TX5) (k := 2) (v := .int 0) (ty := .int) (ws0 := [(q0, .inr (5, [.int 0, .int 0, .int 0, .int 0, .int 0, .int 0]))]) S hW 0 rfl rfl giX5 tyX5 tyX5_ok nmX5 (Nat.le_of_ble_eq_true rfl) lk_X5_17 rfl rfl (by decide +kernel) rfl rfl (Nat.le_of_ble_eq_true rfl) rfl dX5_init_16 (fun H locs hW => ?_)
  refine lv_aload_n hx hb dX5_init_19 rfl (lv_at hl 0 rfl) ?_
  refine lv_iconst (v := 0) hx hb dX5_init_20 (by decide) ?_
  refine x_put (T := TX5) (k := 3) (v := .int 0) (ty := .int) (ws0 := [(q0, .inr (5, [.int 0, .int 0, .int 0, .int 0, .int 0, .int 0]))]) S hW 0 rfl rfl giX5 tyX5 tyX5_ok nmX5 (Nat.le_of_ble_eq_true rfl) lk_X5_20 rfl rfl (by decide +kernel) rfl rfl (Nat.le_of_ble_eq_true rfl) rfl dX5_init_21 (fun H locs hW => ?_)
  refine lv_aload_n hx hb dX5_init_24 rfl (lv_at hl 0 rfl) ?_
  refine lv_iconst (v := 0) hx hb dX5_init_25 (by decide) ?_
  refine x_put (T := TX5) (k := 4) (v := .int 0) (ty := .int) (ws0 := [(q0, .inr (5, [.int 0, .int 0, .int 0, .int 0, .int 0, .int 0]))]) S hW 0 rfl rfl giX5 tyX5 tyX5_ok nmX5 (Nat.le_of_ble_eq_true rfl) lk_X5_23 rfl rfl (by decide +kernel) rfl rfl (Nat.le_of_ble_eq_true rfl) rfl dX5_init_26 (fun H locs hW => ?_)
  refine lv_aload_n hx hb dX5_init_29 rfl (lv_at hl 0 rfl) ?_
  refine lv_iconst (v := 0) hx hb dX5_init_30 (by decide) ?_
  refine x_put (T := TX5) (k := 5) (v := .int 0) (ty := .int) (ws0 := [(q0, .inr (5, [.int 0, .int 0, .int 0, .int 0, .int 0, .int 0]))]) S hW 0 rfl rfl giX5 tyX5 tyX5_ok nmX5 (Nat.le_of_ble_eq_true rfl) lk_X5_26 rfl rfl (by decide +kernel) rfl rfl (Nat.le_of_ble_eq_true rfl) rfl dX5_init_31 (fun H locs hW => ?_)
  exact hret H _ _ ls (fun k => [].getD k 0) hW dX5_init_34
def rmcX6 : Room := { frames := 1, cells := 2, slots := 1324, locals := 12 }
theorem mn_X6 : MN yX6_init cX6_init 2 1 := ⟨im_X6_init, in_X6, co_X6_init, rfl, by decide, by decide, by decide +kernel⟩
set_option maxRecDepth 100000 in
set_option maxHeartbeats 4000000 in
theorem cn_X6 (l : Launch) (G : EN) (sz : Nat) (q0 t1 : Nat) : CN l yX6_init cX6_init 2 rmcX6 G sz [.ref q0, .ref t1] [(q0, .inr (6, [.null, .null, .null, .int 0, .int 0, .int 0]))] (fun u => [(q0, .inr (6, [.ref t1, .ref (u 0), .ref (u 1), .int 0, .int 0, .int 0])), ((u 0), .inl (G.2.1 0, 300, .inl (fun _ => 0))), ((u 1), .inl (G.2.1 0, 1024, .inl (fun _ => 0)))]) 2 1324 := by
  refine CN.intro (lv := [(0, .ref q0), (1, .ref t1)]) (by decide) rfl (Nat.le_of_ble_eq_true rfl) rfl ?_
  intro p e s m args below meth c Q B S hin hret hNX H locs ls hW hl
  have hx := S.1
  have hb := S.2.1
  refine lv_aload_n hx hb dX6_init_0 rfl (lv_at hl 0 rfl) ?_
  refine x_super (rest := []) S hl lk_X6_3 rfl dX6_init_1 ⟨Nat.le_of_ble_eq_true rfl, Nat.le_of_ble_eq_true rfl⟩ ?_
  refine lv_aload_n hx hb dX6_init_4 rfl (lv_at hl 0 rfl) ?_
  refine lv_sipush (v := 300) hx hb dX6_init_5 (by decide) ?_
  refine x_newI (N' := 300) S hW (by decide) (by decide) (by decide) (Nat.le_of_ble_eq_true rfl) (Nat.le_of_ble_eq_true rfl) dX6_init_8 (fun n1 H hW => ?_)
  have hW : WS G B s [(q0, .inr (6, [.null, .null, .null, .int 0, .int 0, .int 0])), (n1, .inl (G.2.1 0, 300, .inl (fun _ => 0)))] H _ := hW
  refine x_putF (T := TX6) (k := 1) (v := .ref n1) (ty := .array .int) (ws0 := [(q0, .inr (6, [.null, .ref n1, .null, .int 0, .int 0, .int 0])), (n1, .inl (G.2.1 0, 300, .inl (fun _ => 0)))]) S hin hW 0 rfl rfl giX6 tyX6 tyX6_ok nmX6 (Nat.le_of_ble_eq_true rfl) lk_X6_9 rfl rfl rfl (by decide +kernel) rfl rfl (Nat.le_of_ble_eq_true rfl) rfl dX6_init_10 (fun H locs hW => ?_)
  refine lv_aload_n hx hb dX6_init_13 rfl (lv_at hl 0 rfl) ?_
  refine lv_sipush (v := 1024) hx hb dX6_init_14 (by decide) ?_
  refine x_newI (N' := 1024) S hW (by decide) (by decide) (by decide) (Nat.le_of_ble_eq_true rfl) (Nat.le_of_ble_eq_true rfl) dX6_init_17 (fun n2 H hW => ?_)
  have hW : WS G B s [(q0, .inr (6, [.null, .ref n1, .null, .int 0, .int 0, .int 0])), (n1, .inl (G.2.1 0, 300, .inl (fun _ => 0))), (n2, .inl (G.2.1 0, 1024, .inl (fun _ => 0)))] H _ := hW
  refine x_putF (T := TX6) (k := 2) (v := .ref n2) (ty := .array .int) (ws0 := [(q0, .inr (6, [.null, .ref n1, .ref n2, .int 0, .int 0, .int 0])), (n1, .inl (G.2.1 0, 300, .inl (fun _ => 0))), (n2, .inl (G.2.1 0, 1024, .inl (fun _ => 0)))]) S hin hW 0 rfl rfl giX6 tyX6 tyX6_ok nmX6 (Nat.le_of_ble_eq_true rfl) lk_X6_15 rfl rfl rfl (by decide +kernel) rfl rfl (Nat.le_of_ble_eq_true rfl) rfl dX6_init_19 (fun H locs hW => ?_)
  refine lv_aload_n hx hb dX6_init_22 rfl (lv_at hl 0 rfl) ?_
  refine lv_iconst (v := 0) hx hb dX6_init_23 (by decide) ?_
  refine x_put (T := TX6) (k := 3) (v := .int 0) (ty := .int) (ws0 := [(q0, .inr (6, [.null, .ref n1, .ref n2, .int 0, .int 0, .int 0])), (n1, .inl (G.2.1 0, 300, .inl (fun _ => 0))), (n2, .inl (G.2.1 0, 1024, .inl (fun _ => 0)))]) S hW 0 rfl rfl giX6 tyX6 tyX6_ok nmX6 (Nat.le_of_ble_eq_true rfl) lk_X6_18 rfl rfl (by decide +kernel) rfl rfl (Nat.le_of_ble_eq_true rfl) rfl dX6_init_24 (fun H locs hW => ?_)
  refine lv_aload_n hx hb dX6_init_27 rfl (lv_at hl 0 rfl) ?_
  refine lv_iconst (v := 0) hx hb dX6_init_28 (by decide) ?_
  refine x_put (T := TX6) (k := 4) (v := .int 0) (ty := .boolean) (ws0 := [(q0, .inr (6, [.null, .ref n1, .ref n2, .int 0, .int 0, .int 0])), (n1, .inl (G.2.1 0, 300, .inl (fun _ => 0))), (n2, .inl (G.2.1 0, 1024, .inl (fun _ => 0)))]) S hW 0 rfl rfl giX6 tyX6 tyX6_ok nmX6 (Nat.le_of_ble_eq_true rfl) lk_X6_22 rfl rfl (by decide +kernel) rfl rfl (Nat.le_of_ble_eq_true rfl) rfl dX6_init_29 (fun H locs hW => ?_)
  refine lv_aload_n hx hb dX6_init_32 rfl (lv_at hl 0 rfl) ?_
  refine lv_iconst (v := 0) hx hb dX6_init_33 (by decide) ?_
  refine x_put (T := TX6) (k := 5) (v := .int 0) (ty := .boolean) (ws0 := [(q0, .inr (6, [.null, .ref n1, .ref n2, .int 0, .int 0, .int 0])), (n1, .inl (G.2.1 0, 300, .inl (fun _ => 0))), (n2, .inl (G.2.1 0, 1024, .inl (fun _ => 0)))]) S hW 0 rfl rfl giX6 tyX6 tyX6_ok nmX6 (Nat.le_of_ble_eq_true rfl) lk_X6_26 rfl rfl (by decide +kernel) rfl rfl (Nat.le_of_ble_eq_true rfl) rfl dX6_init_34 (fun H locs hW => ?_)
  refine lv_aload_n hx hb dX6_init_37 rfl (lv_at hl 0 rfl) ?_
  refine lv_aload_n hx hb dX6_init_38 rfl (lv_at hl 1 rfl) ?_
  refine x_putF (T := TX6) (k := 0) (v := .ref t1) (ty := .object "PlanLandmarks$ActionTable") (ws0 := [(q0, .inr (6, [.ref t1, .ref n1, .ref n2, .int 0, .int 0, .int 0])), (n1, .inl (G.2.1 0, 300, .inl (fun _ => 0))), (n2, .inl (G.2.1 0, 1024, .inl (fun _ => 0)))]) S hin hW 0 rfl rfl giX6 tyX6 tyX6_ok nmX6 (Nat.le_of_ble_eq_true rfl) lk_X6_29 rfl rfl rfl (by decide +kernel) rfl rfl (Nat.le_of_ble_eq_true rfl) rfl dX6_init_39 (fun H locs hW => ?_)
  exact hret H _ _ ls (fun k => [n1, n2].getD k 0) hW dX6_init_42
def rmcX7 : Room := { frames := 1, cells := 0, slots := 0, locals := 12 }
theorem mn_X7 : MN yX7_init cX7_init 4 3 := ⟨im_X7_init, in_X7, co_X7_init, rfl, by decide, by decide, by decide +kernel⟩
set_option maxRecDepth 100000 in
set_option maxHeartbeats 4000000 in
theorem cn_X7 (l : Launch) (G : EN) (sz : Nat) (q0 t1 t2 t3 : Nat) : CN l yX7_init cX7_init 4 rmcX7 G sz [.ref q0, .ref t1, .ref t2, .ref t3] [(q0, .inr (7, [.null, .null, .null, .int 0, .int 0, .int 0, .int 0]))] (fun u => [(q0, .inr (7, [.ref t1, .ref t2, .ref t3, .int 0, .int 0, .int 0, .int 0]))]) 0 0 := by
  refine CN.intro (lv := [(0, .ref q0), (1, .ref t1), (2, .ref t2), (3, .ref t3)]) (by decide) rfl (Nat.le_of_ble_eq_true rfl) rfl ?_
  intro p e s m args below meth c Q B S hin hret hNX H locs ls hW hl
  have hx := S.1
  have hb := S.2.1
  refine lv_aload_n hx hb dX7_init_0 rfl (lv_at hl 0 rfl) ?_
  refine x_super (rest := []) S hl lk_X7_3 rfl dX7_init_1 ⟨Nat.le_of_ble_eq_true rfl, Nat.le_of_ble_eq_true rfl⟩ ?_
  refine lv_aload_n hx hb dX7_init_4 rfl (lv_at hl 0 rfl) ?_
  refine lv_iconst (v := 0) hx hb dX7_init_5 (by decide) ?_
  refine x_put (T := TX7) (k := 3) (v := .int 0) (ty := .boolean) (ws0 := [(q0, .inr (7, [.null, .null, .null, .int 0, .int 0, .int 0, .int 0]))]) S hW 0 rfl rfl giX7 tyX7 tyX7_ok nmX7 (Nat.le_of_ble_eq_true rfl) lk_X7_9 rfl rfl (by decide +kernel) rfl rfl (Nat.le_of_ble_eq_true rfl) rfl dX7_init_6 (fun H locs hW => ?_)
  refine lv_aload_n hx hb dX7_init_9 rfl (lv_at hl 0 rfl) ?_
  refine lv_iconst (v := 0) hx hb dX7_init_10 (by decide) ?_
  refine x_put (T := TX7) (k := 4) (v := .int 0) (ty := .int) (ws0 := [(q0, .inr (7, [.null, .null, .null, .int 0, .int 0, .int 0, .int 0]))]) S hW 0 rfl rfl giX7 tyX7 tyX7_ok nmX7 (Nat.le_of_ble_eq_true rfl) lk_X7_15 rfl rfl (by decide +kernel) rfl rfl (Nat.le_of_ble_eq_true rfl) rfl dX7_init_11 (fun H locs hW => ?_)
  refine lv_aload_n hx hb dX7_init_14 rfl (lv_at hl 0 rfl) ?_
  refine lv_iconst (v := 0) hx hb dX7_init_15 (by decide) ?_
  refine x_put (T := TX7) (k := 5) (v := .int 0) (ty := .int) (ws0 := [(q0, .inr (7, [.null, .null, .null, .int 0, .int 0, .int 0, .int 0]))]) S hW 0 rfl rfl giX7 tyX7 tyX7_ok nmX7 (Nat.le_of_ble_eq_true rfl) lk_X7_19 rfl rfl (by decide +kernel) rfl rfl (Nat.le_of_ble_eq_true rfl) rfl dX7_init_16 (fun H locs hW => ?_)
  refine lv_aload_n hx hb dX7_init_19 rfl (lv_at hl 0 rfl) ?_
  refine lv_iconst (v := 0) hx hb dX7_init_20 (by decide) ?_
  refine x_put (T := TX7) (k := 6) (v := .int 0) (ty := .int) (ws0 := [(q0, .inr (7, [.null, .null, .null, .int 0, .int 0, .int 0, .int 0]))]) S hW 0 rfl rfl giX7 tyX7 tyX7_ok nmX7 (Nat.le_of_ble_eq_true rfl) lk_X7_22 rfl rfl (by decide +kernel) rfl rfl (Nat.le_of_ble_eq_true rfl) rfl dX7_init_21 (fun H locs hW => ?_)
  refine lv_aload_n hx hb dX7_init_24 rfl (lv_at hl 0 rfl) ?_
  refine lv_aload_n hx hb dX7_init_25 rfl (lv_at hl 1 rfl) ?_
  refine x_putF (T := TX7) (k := 0) (v := .ref t1) (ty := .object "PlanLandmarks$ActionTable") (ws0 := [(q0, .inr (7, [.ref t1, .null, .null, .int 0, .int 0, .int 0, .int 0]))]) S hin hW 0 rfl rfl giX7 tyX7 tyX7_ok nmX7 (Nat.le_of_ble_eq_true rfl) lk_X7_25 rfl rfl rfl (by decide +kernel) rfl rfl (Nat.le_of_ble_eq_true rfl) rfl dX7_init_26 (fun H locs hW => ?_)
  refine lv_aload_n hx hb dX7_init_29 rfl (lv_at hl 0 rfl) ?_
  refine lv_aload_n hx hb dX7_init_30 rfl (lv_at hl 2 rfl) ?_
  refine x_putF (T := TX7) (k := 1) (v := .ref t2) (ty := .object "PlanLandmarks$Levels") (ws0 := [(q0, .inr (7, [.ref t1, .ref t2, .null, .int 0, .int 0, .int 0, .int 0]))]) S hin hW 0 rfl rfl giX7 tyX7 tyX7_ok nmX7 (Nat.le_of_ble_eq_true rfl) lk_X7_29 rfl rfl rfl (by decide +kernel) rfl rfl (Nat.le_of_ble_eq_true rfl) rfl dX7_init_31 (fun H locs hW => ?_)
  refine lv_aload_n hx hb dX7_init_34 rfl (lv_at hl 0 rfl) ?_
  refine lv_aload_n hx hb dX7_init_35 rfl (lv_at hl 3 rfl) ?_
  refine x_putF (T := TX7) (k := 2) (v := .ref t3) (ty := .object "PlanLandmarks$FactCosts") (ws0 := [(q0, .inr (7, [.ref t1, .ref t2, .ref t3, .int 0, .int 0, .int 0, .int 0]))]) S hin hW 0 rfl rfl giX7 tyX7 tyX7_ok nmX7 (Nat.le_of_ble_eq_true rfl) lk_X7_33 rfl rfl rfl (by decide +kernel) rfl rfl (Nat.le_of_ble_eq_true rfl) rfl dX7_init_36 (fun H locs hW => ?_)
  exact hret H _ _ ls (fun k => [].getD k 0) hW dX7_init_39
def rmcX8 : Room := { frames := 1, cells := 1, slots := 160, locals := 12 }
theorem mn_X8 : MN yX8_init cX8_init 1 0 := ⟨im_X8_init, in_X8, co_X8_init, rfl, by decide, by decide, by decide +kernel⟩
set_option maxRecDepth 100000 in
set_option maxHeartbeats 4000000 in
theorem cn_X8 (l : Launch) (G : EN) (sz : Nat) (q0 : Nat) : CN l yX8_init cX8_init 1 rmcX8 G sz [.ref q0] [(q0, .inr (8, [.null, .int 0, .int 0]))] (fun u => [(q0, .inr (8, [.ref (u 0), .int 0, .int (-1)])), ((u 0), .inl (G.2.1 1, 160, .inr (.inl (fun _ => 0))))]) 1 160 := by
  refine CN.intro (lv := [(0, .ref q0)]) (by decide) rfl (Nat.le_of_ble_eq_true rfl) rfl ?_
  intro p e s m args below meth c Q B S hin hret hNX H locs ls hW hl
  have hx := S.1
  have hb := S.2.1
  refine lv_aload_n hx hb dX8_init_0 rfl (lv_at hl 0 rfl) ?_
  refine x_super (rest := []) S hl lk_X8_3 rfl dX8_init_1 ⟨Nat.le_of_ble_eq_true rfl, Nat.le_of_ble_eq_true rfl⟩ ?_
  refine lv_aload_n hx hb dX8_init_4 rfl (lv_at hl 0 rfl) ?_
  refine lv_sipush (v := 160) hx hb dX8_init_5 (by decide) ?_
  refine x_newJ (N' := 160) S hW (by decide) (by decide) (by decide) (Nat.le_of_ble_eq_true rfl) (Nat.le_of_ble_eq_true rfl) dX8_init_8 (fun n1 H hW => ?_)
  have hW : WS G B s [(q0, .inr (8, [.null, .int 0, .int 0])), (n1, .inl (G.2.1 1, 160, .inr (.inl (fun _ => 0))))] H _ := hW
  refine x_putF (T := TX8) (k := 0) (v := .ref n1) (ty := .array .long) (ws0 := [(q0, .inr (8, [.ref n1, .int 0, .int 0])), (n1, .inl (G.2.1 1, 160, .inr (.inl (fun _ => 0))))]) S hin hW 0 rfl rfl giX8 tyX8 tyX8_ok nmX8 (Nat.le_of_ble_eq_true rfl) lk_X8_9 rfl rfl rfl (by decide +kernel) rfl rfl (Nat.le_of_ble_eq_true rfl) rfl dX8_init_10 (fun H locs hW => ?_)
  refine lv_aload_n hx hb dX8_init_13 rfl (lv_at hl 0 rfl) ?_
  refine lv_iconst (v := 0) hx hb dX8_init_14 (by decide) ?_
  refine x_put (T := TX8) (k := 1) (v := .int 0) (ty := .int) (ws0 := [(q0, .inr (8, [.ref n1, .int 0, .int 0])), (n1, .inl (G.2.1 1, 160, .inr (.inl (fun _ => 0))))]) S hW 0 rfl rfl giX8 tyX8 tyX8_ok nmX8 (Nat.le_of_ble_eq_true rfl) lk_X8_15 rfl rfl (by decide +kernel) rfl rfl (Nat.le_of_ble_eq_true rfl) rfl dX8_init_15 (fun H locs hW => ?_)
  refine lv_aload_n hx hb dX8_init_18 rfl (lv_at hl 0 rfl) ?_
  refine lv_iconst (v := (-1)) hx hb dX8_init_19 (by decide) ?_
  refine x_put (T := TX8) (k := 2) (v := .int (-1)) (ty := .int) (ws0 := [(q0, .inr (8, [.ref n1, .int 0, .int (-1)])), (n1, .inl (G.2.1 1, 160, .inr (.inl (fun _ => 0))))]) S hW 0 rfl rfl giX8 tyX8 tyX8_ok nmX8 (Nat.le_of_ble_eq_true rfl) lk_X8_19 rfl rfl (by decide +kernel) rfl rfl (Nat.le_of_ble_eq_true rfl) rfl dX8_init_20 (fun H locs hW => ?_)
  exact hret H _ _ ls (fun k => [n1].getD k 0) hW dX8_init_23
def rmcX9 : Room := { frames := 1, cells := 0, slots := 0, locals := 12 }
theorem mn_X9 : MN yX9_init cX9_init 2 1 := ⟨im_X9_init, in_X9, co_X9_init, rfl, by decide, by decide, by decide +kernel⟩
set_option maxRecDepth 100000 in
set_option maxHeartbeats 4000000 in
theorem cn_X9 (l : Launch) (G : EN) (sz : Nat) (q0 t1 : Nat) : CN l yX9_init cX9_init 2 rmcX9 G sz [.ref q0, .ref t1] [(q0, .inr (9, [.null, .null, .int 0, .int 0, .int 0, .int 0, .int 0, .int 0, .int 0]))] (fun u => [(q0, .inr (9, [.ref t1, .null, .int 0, .int (-1), .int 0, .int 0, .int 0, .int 0, .int 0]))]) 0 0 := by
  refine CN.intro (lv := [(0, .ref q0), (1, .ref t1)]) (by decide) rfl (Nat.le_of_ble_eq_true rfl) rfl ?_
  intro p e s m args below meth c Q B S hin hret hNX H locs ls hW hl
  have hx := S.1
  have hb := S.2.1
  refine lv_aload_n hx hb dX9_init_0 rfl (lv_at hl 0 rfl) ?_
  refine x_super (rest := []) S hl lk_X9_3 rfl dX9_init_1 ⟨Nat.le_of_ble_eq_true rfl, Nat.le_of_ble_eq_true rfl⟩ ?_
  refine lv_aload_n hx hb dX9_init_4 rfl (lv_at hl 0 rfl) ?_
  refine lv_null hx hb dX9_init_5 ?_
  refine x_put (T := TX9) (k := 1) (v := .null) (ty := .object "PlanLandmarks$Shelf") (ws0 := [(q0, .inr (9, [.null, .null, .int 0, .int 0, .int 0, .int 0, .int 0, .int 0, .int 0]))]) S hW 0 rfl rfl giX9 tyX9 tyX9_ok nmX9 (Nat.le_of_ble_eq_true rfl) lk_X9_9 rfl rfl (by decide +kernel) rfl rfl (Nat.le_of_ble_eq_true rfl) rfl dX9_init_6 (fun H locs hW => ?_)
  refine lv_aload_n hx hb dX9_init_9 rfl (lv_at hl 0 rfl) ?_
  refine lv_iconst (v := 0) hx hb dX9_init_10 (by decide) ?_
  refine x_put (T := TX9) (k := 2) (v := .int 0) (ty := .int) (ws0 := [(q0, .inr (9, [.null, .null, .int 0, .int 0, .int 0, .int 0, .int 0, .int 0, .int 0]))]) S hW 0 rfl rfl giX9 tyX9 tyX9_ok nmX9 (Nat.le_of_ble_eq_true rfl) lk_X9_15 rfl rfl (by decide +kernel) rfl rfl (Nat.le_of_ble_eq_true rfl) rfl dX9_init_11 (fun H locs hW => ?_)
  refine lv_aload_n hx hb dX9_init_14 rfl (lv_at hl 0 rfl) ?_
  refine lv_iconst (v := (-1)) hx hb dX9_init_15 (by decide) ?_
  refine x_put (T := TX9) (k := 3) (v := .int (-1)) (ty := .int) (ws0 := [(q0, .inr (9, [.null, .null, .int 0, .int (-1), .int 0, .int 0, .int 0, .int 0, .int 0]))]) S hW 0 rfl rfl giX9 tyX9 tyX9_ok nmX9 (Nat.le_of_ble_eq_true rfl) lk_X9_19 rfl rfl (by decide +kernel) rfl rfl (Nat.le_of_ble_eq_true rfl) rfl dX9_init_16 (fun H locs hW => ?_)
  refine lv_aload_n hx hb dX9_init_19 rfl (lv_at hl 0 rfl) ?_
  refine lv_iconst (v := 0) hx hb dX9_init_20 (by decide) ?_
  refine x_put (T := TX9) (k := 4) (v := .int 0) (ty := .int) (ws0 := [(q0, .inr (9, [.null, .null, .int 0, .int (-1), .int 0, .int 0, .int 0, .int 0, .int 0]))]) S hW 0 rfl rfl giX9 tyX9 tyX9_ok nmX9 (Nat.le_of_ble_eq_true rfl) lk_X9_22 rfl rfl (by decide +kernel) rfl rfl (Nat.le_of_ble_eq_true rfl) rfl dX9_init_21 (fun H locs hW => ?_)
  refine lv_aload_n hx hb dX9_init_24 rfl (lv_at hl 0 rfl) ?_
  refine lv_iconst (v := 0) hx hb dX9_init_25 (by decide) ?_
  refine x_put (T := TX9) (k := 5) (v := .int 0) (ty := .int) (ws0 := [(q0, .inr (9, [.null, .null, .int 0, .int (-1), .int 0, .int 0, .int 0, .int 0, .int 0]))]) S hW 0 rfl rfl giX9 tyX9 tyX9_ok nmX9 (Nat.le_of_ble_eq_true rfl) lk_X9_25 rfl rfl (by decide +kernel) rfl rfl (Nat.le_of_ble_eq_true rfl) rfl dX9_init_26 (fun H locs hW => ?_)
  refine lv_aload_n hx hb dX9_init_29 rfl (lv_at hl 0 rfl) ?_
  refine lv_iconst (v := 0) hx hb dX9_init_30 (by decide) ?_
  refine x_put (T := TX9) (k := 6) (v := .int 0) (ty := .int) (ws0 := [(q0, .inr (9, [.null, .null, .int 0, .int (-1), .int 0, .int 0, .int 0, .int 0, .int 0]))]) S hW 0 rfl rfl giX9 tyX9 tyX9_ok nmX9 (Nat.le_of_ble_eq_true rfl) lk_X9_28 rfl rfl (by decide +kernel) rfl rfl (Nat.le_of_ble_eq_true rfl) rfl dX9_init_31 (fun H locs hW => ?_)
  refine lv_aload_n hx hb dX9_init_34 rfl (lv_at hl 0 rfl) ?_
  refine lv_iconst (v := 0) hx hb dX9_init_35 (by decide) ?_
  refine x_put (T := TX9) (k := 7) (v := .int 0) (ty := .int) (ws0 := [(q0, .inr (9, [.null, .null, .int 0, .int (-1), .int 0, .int 0, .int 0, .int 0, .int 0]))]) S hW 0 rfl rfl giX9 tyX9 tyX9_ok nmX9 (Nat.le_of_ble_eq_true rfl) lk_X9_31 rfl rfl (by decide +kernel) rfl rfl (Nat.le_of_ble_eq_true rfl) rfl dX9_init_36 (fun H locs hW => ?_)
  refine lv_aload_n hx hb dX9_init_39 rfl (lv_at hl 0 rfl) ?_
  refine lv_iconst (v := 0) hx hb dX9_init_40 (by decide) ?_
  refine x_put (T := TX9) (k := 8) (v := .int 0) (ty := .int) (ws0 := [(q0, .inr (9, [.null, .null, .int 0, .int (-1), .int 0, .int 0, .int 0, .int 0, .int 0]))]) S hW 0 rfl rfl giX9 tyX9 tyX9_ok nmX9 (Nat.le_of_ble_eq_true rfl) lk_X9_34 rfl rfl (by decide +kernel) rfl rfl (Nat.le_of_ble_eq_true rfl) rfl dX9_init_41 (fun H locs hW => ?_)
  refine lv_aload_n hx hb dX9_init_44 rfl (lv_at hl 0 rfl) ?_
  refine lv_aload_n hx hb dX9_init_45 rfl (lv_at hl 1 rfl) ?_
  refine x_putF (T := TX9) (k := 0) (v := .ref t1) (ty := .object "PlanLandmarks$ActionTable") (ws0 := [(q0, .inr (9, [.ref t1, .null, .int 0, .int (-1), .int 0, .int 0, .int 0, .int 0, .int 0]))]) S hin hW 0 rfl rfl giX9 tyX9 tyX9_ok nmX9 (Nat.le_of_ble_eq_true rfl) lk_X9_37 rfl rfl rfl (by decide +kernel) rfl rfl (Nat.le_of_ble_eq_true rfl) rfl dX9_init_46 (fun H locs hW => ?_)
  exact hret H _ _ ls (fun k => [].getD k 0) hW dX9_init_49
def rmcX10 : Room := { frames := 1, cells := 1, slots := 576, locals := 12 }
theorem mn_X10 : MN yX10_init cX10_init 2 1 := ⟨im_X10_init, in_X10, co_X10_init, rfl, by decide, by decide, by decide +kernel⟩
set_option maxRecDepth 100000 in
set_option maxHeartbeats 4000000 in
theorem cn_X10 (l : Launch) (G : EN) (sz : Nat) (q0 t1 : Nat) : CN l yX10_init cX10_init 2 rmcX10 G sz [.ref q0, .ref t1] [(q0, .inr (10, [.null, .null, .int 0, .int 0, .int 0]))] (fun u => [(q0, .inr (10, [.ref t1, .ref (u 0), .int (-1), .int 0, .int 0])), ((u 0), .inl (G.2.1 0, 576, .inl (fun _ => 0)))]) 1 576 := by
  refine CN.intro (lv := [(0, .ref q0), (1, .ref t1)]) (by decide) rfl (Nat.le_of_ble_eq_true rfl) rfl ?_
  intro p e s m args below meth c Q B S hin hret hNX H locs ls hW hl
  have hx := S.1
  have hb := S.2.1
  refine lv_aload_n hx hb dX10_init_0 rfl (lv_at hl 0 rfl) ?_
  refine x_super (rest := []) S hl lk_X10_3 rfl dX10_init_1 ⟨Nat.le_of_ble_eq_true rfl, Nat.le_of_ble_eq_true rfl⟩ ?_
  refine lv_aload_n hx hb dX10_init_4 rfl (lv_at hl 0 rfl) ?_
  refine lv_sipush (v := 576) hx hb dX10_init_5 (by decide) ?_
  refine x_newI (N' := 576) S hW (by decide) (by decide) (by decide) (Nat.le_of_ble_eq_true rfl) (Nat.le_of_ble_eq_true rfl) dX10_init_8 (fun n1 H hW => ?_)
  have hW : WS G B s [(q0, .inr (10, [.null, .null, .int 0, .int 0, .int 0])), (n1, .inl (G.2.1 0, 576, .inl (fun _ => 0)))] H _ := hW
  refine x_putF (T := TX10) (k := 1) (v := .ref n1) (ty := .array .int) (ws0 := [(q0, .inr (10, [.null, .ref n1, .int 0, .int 0, .int 0])), (n1, .inl (G.2.1 0, 576, .inl (fun _ => 0)))]) S hin hW 0 rfl rfl giX10 tyX10 tyX10_ok nmX10 (Nat.le_of_ble_eq_true rfl) lk_X10_9 rfl rfl rfl (by decide +kernel) rfl rfl (Nat.le_of_ble_eq_true rfl) rfl dX10_init_10 (fun H locs hW => ?_)
  refine lv_aload_n hx hb dX10_init_13 rfl (lv_at hl 0 rfl) ?_
  refine lv_iconst (v := (-1)) hx hb dX10_init_14 (by decide) ?_
  refine x_put (T := TX10) (k := 2) (v := .int (-1)) (ty := .int) (ws0 := [(q0, .inr (10, [.null, .ref n1, .int (-1), .int 0, .int 0])), (n1, .inl (G.2.1 0, 576, .inl (fun _ => 0)))]) S hW 0 rfl rfl giX10 tyX10 tyX10_ok nmX10 (Nat.le_of_ble_eq_true rfl) lk_X10_15 rfl rfl (by decide +kernel) rfl rfl (Nat.le_of_ble_eq_true rfl) rfl dX10_init_15 (fun H locs hW => ?_)
  refine lv_aload_n hx hb dX10_init_18 rfl (lv_at hl 0 rfl) ?_
  refine lv_iconst (v := 0) hx hb dX10_init_19 (by decide) ?_
  refine x_put (T := TX10) (k := 3) (v := .int 0) (ty := .int) (ws0 := [(q0, .inr (10, [.null, .ref n1, .int (-1), .int 0, .int 0])), (n1, .inl (G.2.1 0, 576, .inl (fun _ => 0)))]) S hW 0 rfl rfl giX10 tyX10 tyX10_ok nmX10 (Nat.le_of_ble_eq_true rfl) lk_X10_19 rfl rfl (by decide +kernel) rfl rfl (Nat.le_of_ble_eq_true rfl) rfl dX10_init_20 (fun H locs hW => ?_)
  refine lv_aload_n hx hb dX10_init_23 rfl (lv_at hl 0 rfl) ?_
  refine lv_iconst (v := 0) hx hb dX10_init_24 (by decide) ?_
  refine x_put (T := TX10) (k := 4) (v := .int 0) (ty := .int) (ws0 := [(q0, .inr (10, [.null, .ref n1, .int (-1), .int 0, .int 0])), (n1, .inl (G.2.1 0, 576, .inl (fun _ => 0)))]) S hW 0 rfl rfl giX10 tyX10 tyX10_ok nmX10 (Nat.le_of_ble_eq_true rfl) lk_X10_22 rfl rfl (by decide +kernel) rfl rfl (Nat.le_of_ble_eq_true rfl) rfl dX10_init_25 (fun H locs hW => ?_)
  refine lv_aload_n hx hb dX10_init_28 rfl (lv_at hl 0 rfl) ?_
  refine lv_aload_n hx hb dX10_init_29 rfl (lv_at hl 1 rfl) ?_
  refine x_putF (T := TX10) (k := 0) (v := .ref t1) (ty := .object "PlanLandmarks$ActionTable") (ws0 := [(q0, .inr (10, [.ref t1, .ref n1, .int (-1), .int 0, .int 0])), (n1, .inl (G.2.1 0, 576, .inl (fun _ => 0)))]) S hin hW 0 rfl rfl giX10 tyX10 tyX10_ok nmX10 (Nat.le_of_ble_eq_true rfl) lk_X10_25 rfl rfl rfl (by decide +kernel) rfl rfl (Nat.le_of_ble_eq_true rfl) rfl dX10_init_30 (fun H locs hW => ?_)
  exact hret H _ _ ls (fun k => [n1].getD k 0) hW dX10_init_33
def rmcX2 : Room := { frames := 2, cells := 3, slots := 41, locals := 35 }
theorem mn_X2 : MN yX2_init cX2_init 3 2 := ⟨im_X2_init, in_X2, co_X2_init, rfl, by decide, by decide, by decide +kernel⟩
set_option maxRecDepth 100000 in
set_option maxHeartbeats 4000000 in
theorem cn_X2 (l : Launch) (G : EN) (sz : Nat) (q0 t1 t2 : Nat) : CN l yX2_init cX2_init 3 rmcX2 G sz [.ref q0, .ref t1, .ref t2] [(q0, .inr (2, [.null, .null, .null]))] (fun u => [(q0, .inr (2, [.ref t1, .ref (u 0), .ref (u 2)])), ((u 0), .inr (1, [.ref t1, .ref (u 1), .int 0, .int 0])), ((u 1), .inl (G.2.1 0, 30, .inl (fun _ => 0))), ((u 2), .inr (7, [.ref t1, .ref t2, .ref (u 0), .int 0, .int 0, .int 0, .int 0]))]) 3 41 := by
  refine CN.intro (lv := [(0, .ref q0), (1, .ref t1), (2, .ref t2)]) (by decide) rfl (Nat.le_of_ble_eq_true rfl) rfl ?_
  intro p e s m args below meth c Q B S hin hret hNX H locs ls hW hl
  have hx := S.1
  have hb := S.2.1
  refine lv_aload_n hx hb dX2_init_0 rfl (lv_at hl 0 rfl) ?_
  refine x_super (rest := []) S hl lk_X2_3 rfl dX2_init_1 ⟨Nat.le_of_ble_eq_true rfl, Nat.le_of_ble_eq_true rfl⟩ ?_
  refine lv_aload_n hx hb dX2_init_4 rfl (lv_at hl 0 rfl) ?_
  refine lv_aload_n hx hb dX2_init_5 rfl (lv_at hl 1 rfl) ?_
  refine x_putF (T := TX2) (k := 0) (v := .ref t1) (ty := .object "PlanLandmarks$ActionTable") (ws0 := [(q0, .inr (2, [.ref t1, .null, .null]))]) S hin hW 0 rfl rfl giX2 tyX2 tyX2_ok nmX2 (Nat.le_of_ble_eq_true rfl) lk_X2_9 rfl rfl rfl (by decide +kernel) rfl rfl (Nat.le_of_ble_eq_true rfl) rfl dX2_init_6 (fun H locs hW => ?_)
  refine lv_aload_n hx hb dX2_init_9 rfl (lv_at hl 0 rfl) ?_
  refine x_new (ci := 1) (fs := [.null, .null, .int 0, .int 0]) S hW lk_X2_15 nw_X1 in_X1 giX1 tyX1_ok rfl (fun j hj => by revert j; exact fs_X1) (Nat.le_of_ble_eq_true rfl) (Nat.le_of_ble_eq_true rfl) dX2_init_10 (fun n1 H hW => ?_)
  have hW : WS G B s [(q0, .inr (2, [.ref t1, .null, .null])), (n1, .inr (1, [.null, .null, .int 0, .int 0]))] H _ := hW
  refine lv_dup hx hb dX2_init_13 rfl ?_
  refine lv_aload_n hx hb dX2_init_14 rfl (lv_at hl 1 rfl) ?_
  refine ctor_back (WS.swap (w1 := [(q0, .inr (2, [.ref t1, .null, .null]))]) (w2 := [(n1, .inr (1, [.null, .null, .int 0, .int 0]))]) hW) (run_I (rest := [.ref n1, .ref q0]) S hNX (WS.swap (w1 := [(q0, .inr (2, [.ref t1, .null, .null]))]) (w2 := [(n1, .inr (1, [.null, .null, .int 0, .int 0]))]) hW) (cn_X1 l G _ n1 t1) mn_X1 lk_X2_17 rfl rfl hl (Nat.le_of_ble_eq_true rfl) dX2_init_15 ⟨Nat.le_of_ble_eq_true rfl, Nat.le_of_ble_eq_true rfl⟩ rfl rfl ⟨Nat.le_of_ble_eq_true rfl, Nat.le_of_ble_eq_true rfl⟩) (fun u2 H locs hW => ?_)
  have hW : WS G B s [(q0, .inr (2, [.ref t1, .null, .null])), (n1, .inr (1, [.ref t1, .ref (u2 0), .int 0, .int 0])), ((u2 0), .inl (G.2.1 0, 30, .inl (fun _ => 0)))] H _ := WS.swap (w1 := [(n1, .inr (1, [.ref t1, .ref (u2 0), .int 0, .int 0])), ((u2 0), .inl (G.2.1 0, 30, .inl (fun _ => 0)))]) (w2 := [(q0, .inr (2, [.ref t1, .null, .null]))]) hW
  refine x_putF (T := TX2) (k := 1) (v := .ref n1) (ty := .object "PlanLandmarks$FactCosts") (ws0 := [(q0, .inr (2, [.ref t1, .ref n1, .null])), (n1, .inr (1, [.ref t1, .ref (u2 0), .int 0, .int 0])), ((u2 0), .inl (G.2.1 0, 30, .inl (fun _ => 0)))]) S hin hW 0 rfl rfl giX2 tyX2 tyX2_ok nmX2 (Nat.le_of_ble_eq_true rfl) lk_X2_20 rfl rfl rfl (by decide +kernel) rfl rfl (Nat.le_of_ble_eq_true rfl) rfl dX2_init_18 (fun H locs hW => ?_)
  refine lv_aload_n hx hb dX2_init_21 rfl (lv_at hl 0 rfl) ?_
  refine x_new (ci := 7) (fs := [.null, .null, .null, .int 0, .int 0, .int 0, .int 0]) S hW lk_X2_24 nw_X7 in_X7 giX7 tyX7_ok rfl (fun j hj => by revert j; exact fs_X7) (Nat.le_of_ble_eq_true rfl) (Nat.le_of_ble_eq_true rfl) dX2_init_22 (fun n3 H hW => ?_)
  have hW : WS G B s [(q0, .inr (2, [.ref t1, .ref n1, .null])), (n1, .inr (1, [.ref t1, .ref (u2 0), .int 0, .int 0])), ((u2 0), .inl (G.2.1 0, 30, .inl (fun _ => 0))), (n3, .inr (7, [.null, .null, .null, .int 0, .int 0, .int 0, .int 0]))] H _ := hW
  refine lv_dup hx hb dX2_init_25 rfl ?_
  refine lv_aload_n hx hb dX2_init_26 rfl (lv_at hl 1 rfl) ?_
  refine lv_aload_n hx hb dX2_init_27 rfl (lv_at hl 2 rfl) ?_
  refine lv_aload_n hx hb dX2_init_28 rfl (lv_at hl 0 rfl) ?_
  refine x_get (T := TX2) (k := 1) (v := .ref n1) S hW 0 rfl rfl giX2 (Nat.le_of_ble_eq_true rfl) lk_X2_20 rfl rfl dX2_init_29 ?_
  refine ctor_back (WS.swap (w1 := [(q0, .inr (2, [.ref t1, .ref n1, .null])), (n1, .inr (1, [.ref t1, .ref (u2 0), .int 0, .int 0])), ((u2 0), .inl (G.2.1 0, 30, .inl (fun _ => 0)))]) (w2 := [(n3, .inr (7, [.null, .null, .null, .int 0, .int 0, .int 0, .int 0]))]) hW) (run_I (rest := [.ref n3, .ref q0]) S hNX (WS.swap (w1 := [(q0, .inr (2, [.ref t1, .ref n1, .null])), (n1, .inr (1, [.ref t1, .ref (u2 0), .int 0, .int 0])), ((u2 0), .inl (G.2.1 0, 30, .inl (fun _ => 0)))]) (w2 := [(n3, .inr (7, [.null, .null, .null, .int 0, .int 0, .int 0, .int 0]))]) hW) (cn_X7 l G _ n3 t1 t2 n1) mn_X7 lk_X2_26 rfl rfl hl (Nat.le_of_ble_eq_true rfl) dX2_init_32 ⟨Nat.le_of_ble_eq_true rfl, Nat.le_of_ble_eq_true rfl⟩ rfl rfl ⟨Nat.le_of_ble_eq_true rfl, Nat.le_of_ble_eq_true rfl⟩) (fun u4 H locs hW => ?_)
  have hW : WS G B s [(q0, .inr (2, [.ref t1, .ref n1, .null])), (n1, .inr (1, [.ref t1, .ref (u2 0), .int 0, .int 0])), ((u2 0), .inl (G.2.1 0, 30, .inl (fun _ => 0))), (n3, .inr (7, [.ref t1, .ref t2, .ref n1, .int 0, .int 0, .int 0, .int 0]))] H _ := WS.swap (w1 := [(n3, .inr (7, [.ref t1, .ref t2, .ref n1, .int 0, .int 0, .int 0, .int 0]))]) (w2 := [(q0, .inr (2, [.ref t1, .ref n1, .null])), (n1, .inr (1, [.ref t1, .ref (u2 0), .int 0, .int 0])), ((u2 0), .inl (G.2.1 0, 30, .inl (fun _ => 0)))]) hW
  refine x_putF (T := TX2) (k := 2) (v := .ref n3) (ty := .object "PlanLandmarks$RelaxedPlan") (ws0 := [(q0, .inr (2, [.ref t1, .ref n1, .ref n3])), (n1, .inr (1, [.ref t1, .ref (u2 0), .int 0, .int 0])), ((u2 0), .inl (G.2.1 0, 30, .inl (fun _ => 0))), (n3, .inr (7, [.ref t1, .ref t2, .ref n1, .int 0, .int 0, .int 0, .int 0]))]) S hin hW 0 rfl rfl giX2 tyX2 tyX2_ok nmX2 (Nat.le_of_ble_eq_true rfl) lk_X2_29 rfl rfl rfl (by decide +kernel) rfl rfl (Nat.le_of_ble_eq_true rfl) rfl dX2_init_35 (fun H locs hW => ?_)
  exact hret H _ _ ls (fun k => [n1, (u2 0), n3].getD k 0) hW dX2_init_38
