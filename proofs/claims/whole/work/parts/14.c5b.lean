def rmX11_relaxed : Room := { frames := 15, cells := 0, slots := 0, locals := 473 }
def f_X11_relaxed (n : Nat) (σ : SC) (a1 : Int32) : Option (Int32 × SC) := if (f_X11_isFacts a1) = 0 then bd2 (f_X11_refuse σ (-6)) (fun v5 σ4 => some (v5, σ4)) else bd (f_X7_make n σ a1 (gi σ 2)) (fun σ2 => some ((gi σ2 11), σ2))
theorem mi_X11_relaxed : MI yX11_relaxed cX11_relaxed 2 (some .int) 1 := ⟨im_X11_relaxed, se_X11_relaxed, in_X11, co_X11_relaxed, by decide, by decide, by decide +kernel⟩
set_option maxRecDepth 100000 in
set_option maxHeartbeats 4000000 in
theorem ct_X11_relaxed (l : Launch) (n : Nat) (G : EN) (A : Nat → Nat) (σ : SC) (sz : Nat) (a1 : Int32) {r0 : Int32} {σ0 : SC} (h : f_X11_relaxed n σ a1 = some (r0, σ0)) : CT l yX11_relaxed cX11_relaxed 2 (some .int) rmX11_relaxed G sz [.ref (A 0), .int a1] (wC G A σ) (QI G (va_A (wC G A σ) sz) r0 (wC G A σ0)) := by
  unfold f_X11_relaxed at h
  refine CI.intro (lv := [(0, .ref (A 0)), (1, .int a1)]) (by decide) (Nat.le_of_ble_eq_true rfl) rfl ?_
  intro p e s m args below meth c Q B S hret H locs ls hW hl
  have hx := S.1
  have hb := S.2.1
  refine lv_iload_n hx hb dX11_relaxed_0 rfl (lv_at hl 1 rfl) ?_
  refine back_i (rest := []) hW (run_S S hW (ct_X11_isFacts l G A σ _ a1 rfl) ms_X11_isFacts lk_X11_173 rfl rfl hl (Nat.le_of_ble_eq_true rfl) dX11_relaxed_1 ⟨Nat.le_of_ble_eq_true rfl, Nat.le_of_ble_eq_true rfl⟩ rfl rfl) (fun H locs hW => ?_)
  refine bz_ne (tgt := 14) hx hb h dX11_relaxed_4 (by decide) (fun _ h => ?_) (fun _ h => ?_)
  · refine lv_aload_n hx hb dX11_relaxed_7 rfl (lv_at hl 0 rfl) ?_
    refine lv_bipush (v := (-6)) hx hb dX11_relaxed_8 (by decide) ?_
    obtain ⟨v5, σ4, h3, h⟩ := bd2_o h
    refine back_i (rest := []) hW (run_V S hW (ct_X11_refuse l G A σ _ (-6) h3) mi_X11_refuse lk_X11_108 (eC_0 G A σ) rfl rfl rfl hl (Nat.le_of_ble_eq_true rfl) dX11_relaxed_10 ⟨Nat.le_of_ble_eq_true rfl, Nat.le_of_ble_eq_true rfl⟩ rfl rfl) (fun H locs hW => ?_)
    exact ret_is (wf := wC G A) hret h rfl hW dX11_relaxed_13
  · refine lv_aload_n hx hb dX11_relaxed_14 rfl (lv_at hl 0 rfl) ?_
    refine gC_X11_guesser S hW lk_X11_36 dX11_relaxed_15 ?_
    refine gC_X2_plan S hW lk_X11_255 dX11_relaxed_18 ?_
    refine lv_iload_n hx hb dX11_relaxed_21 rfl (lv_at hl 1 rfl) ?_
    refine lv_aload_n hx hb dX11_relaxed_22 rfl (lv_at hl 0 rfl) ?_
    refine gC_X11_goalSet S hW lk_X11_91 dX11_relaxed_23 ?_
    obtain ⟨σ2, h1, h⟩ := bd_o h
    refine back_v (rest := []) hW (run_V S hW (ct_X7_make l n G A σ _ a1 (gi σ 2) h1) mi_X7_make lk_X11_259 (eC_16 G A σ) rfl rfl rfl hl (Nat.le_of_ble_eq_true rfl) dX11_relaxed_26 ⟨Nat.le_of_ble_eq_true rfl, Nat.le_of_ble_eq_true rfl⟩ rfl rfl) (fun H locs hW => ?_)
    refine lv_aload_n hx hb dX11_relaxed_29 rfl (lv_at hl 0 rfl) ?_
    refine gC_X11_guesser S hW lk_X11_36 dX11_relaxed_30 ?_
    refine gC_X2_plan S hW lk_X11_255 dX11_relaxed_33 ?_
    refine gC_X7_chosen S hW lk_X11_264 dX11_relaxed_36 ?_
    exact ret_is (wf := wC G A) hret h rfl hW dX11_relaxed_39
def rmX11_helpful : Room := { frames := 15, cells := 0, slots := 0, locals := 473 }
def f_X11_helpful (n : Nat) (σ : SC) (a1 : Int32) : Option (Int32 × SC) := if (f_X11_isFacts a1) = 0 then bd2 (f_X11_refuse σ (-6)) (fun v7 σ6 => some (v7, σ6)) else bd (f_X7_make n σ a1 (gi σ 2)) (fun σ2 => bd (f_X7_helpfulIn n σ2 a1) (fun v4 => some (v4, σ2)))
theorem mi_X11_helpful : MI yX11_helpful cX11_helpful 2 (some .int) 1 := ⟨im_X11_helpful, se_X11_helpful, in_X11, co_X11_helpful, by decide, by decide, by decide +kernel⟩
set_option maxRecDepth 100000 in
set_option maxHeartbeats 4000000 in
theorem ct_X11_helpful (l : Launch) (n : Nat) (G : EN) (A : Nat → Nat) (σ : SC) (sz : Nat) (a1 : Int32) {r0 : Int32} {σ0 : SC} (h : f_X11_helpful n σ a1 = some (r0, σ0)) : CT l yX11_helpful cX11_helpful 2 (some .int) rmX11_helpful G sz [.ref (A 0), .int a1] (wC G A σ) (QI G (va_A (wC G A σ) sz) r0 (wC G A σ0)) := by
  unfold f_X11_helpful at h
  refine CI.intro (lv := [(0, .ref (A 0)), (1, .int a1)]) (by decide) (Nat.le_of_ble_eq_true rfl) rfl ?_
  intro p e s m args below meth c Q B S hret H locs ls hW hl
  have hx := S.1
  have hb := S.2.1
  refine lv_iload_n hx hb dX11_helpful_0 rfl (lv_at hl 1 rfl) ?_
  refine back_i (rest := []) hW (run_S S hW (ct_X11_isFacts l G A σ _ a1 rfl) ms_X11_isFacts lk_X11_173 rfl rfl hl (Nat.le_of_ble_eq_true rfl) dX11_helpful_1 ⟨Nat.le_of_ble_eq_true rfl, Nat.le_of_ble_eq_true rfl⟩ rfl rfl) (fun H locs hW => ?_)
  refine bz_ne (tgt := 14) hx hb h dX11_helpful_4 (by decide) (fun _ h => ?_) (fun _ h => ?_)
  · refine lv_aload_n hx hb dX11_helpful_7 rfl (lv_at hl 0 rfl) ?_
    refine lv_bipush (v := (-6)) hx hb dX11_helpful_8 (by decide) ?_
    obtain ⟨v7, σ6, h5, h⟩ := bd2_o h
    refine back_i (rest := []) hW (run_V S hW (ct_X11_refuse l G A σ _ (-6) h5) mi_X11_refuse lk_X11_108 (eC_0 G A σ) rfl rfl rfl hl (Nat.le_of_ble_eq_true rfl) dX11_helpful_10 ⟨Nat.le_of_ble_eq_true rfl, Nat.le_of_ble_eq_true rfl⟩ rfl rfl) (fun H locs hW => ?_)
    exact ret_is (wf := wC G A) hret h rfl hW dX11_helpful_13
  · refine lv_aload_n hx hb dX11_helpful_14 rfl (lv_at hl 0 rfl) ?_
    refine gC_X11_guesser S hW lk_X11_36 dX11_helpful_15 ?_
    refine gC_X2_plan S hW lk_X11_255 dX11_helpful_18 ?_
    refine lv_iload_n hx hb dX11_helpful_21 rfl (lv_at hl 1 rfl) ?_
    refine lv_aload_n hx hb dX11_helpful_22 rfl (lv_at hl 0 rfl) ?_
    refine gC_X11_goalSet S hW lk_X11_91 dX11_helpful_23 ?_
    obtain ⟨σ2, h1, h⟩ := bd_o h
    refine back_v (rest := []) hW (run_V S hW (ct_X7_make l n G A σ _ a1 (gi σ 2) h1) mi_X7_make lk_X11_259 (eC_16 G A σ) rfl rfl rfl hl (Nat.le_of_ble_eq_true rfl) dX11_helpful_26 ⟨Nat.le_of_ble_eq_true rfl, Nat.le_of_ble_eq_true rfl⟩ rfl rfl) (fun H locs hW => ?_)
    refine lv_aload_n hx hb dX11_helpful_29 rfl (lv_at hl 0 rfl) ?_
    refine gC_X11_guesser S hW lk_X11_36 dX11_helpful_30 ?_
    refine gC_X2_plan S hW lk_X11_255 dX11_helpful_33 ?_
    refine lv_iload_n hx hb dX11_helpful_36 rfl (lv_at hl 1 rfl) ?_
    obtain ⟨v4, h3, h⟩ := bd_o h
    refine back_i (rest := []) hW (run_V S hW (ct_X7_helpfulIn l n G A σ2 _ a1 h3) mi_X7_helpfulIn lk_X11_267 (eC_16 G A σ2) rfl rfl rfl hl (Nat.le_of_ble_eq_true rfl) dX11_helpful_37 ⟨Nat.le_of_ble_eq_true rfl, Nat.le_of_ble_eq_true rfl⟩ rfl rfl) (fun H locs hW => ?_)
    exact ret_is (wf := wC G A) hret h rfl hW dX11_helpful_40
def rmX11_landmarks : Room := { frames := 3, cells := 0, slots := 0, locals := 69 }
def LX11_landmarks_33 (n : Nat) (K : SC → Int32 → Option (Int32 × SC)) : Nat → SC → Int32 → Int32 → Option (Int32 × SC)
  | 0, _, _, _ => none
  | k + 1, σ, y1, y2 => if 30 ≤ y2 then K σ y1 else bd (f_X3_spread n σ (gi σ 1) (1 <<< (y2 &&& 31))) (fun σ6 => bd (f_X3_firstWith n σ6 (gi σ6 2)) (fun v8 => if v8 = (-1) then lt (y1 ||| (1 <<< (y2 &&& 31))) (fun v10 => lt (y2 + 1) (fun v11 => LX11_landmarks_33 n K k σ6 v10 v11)) else lt (y2 + 1) (fun v9 => LX11_landmarks_33 n K k σ6 y1 v9)))
def f_X11_landmarks (n : Nat) (σ : SC) : Option (Int32 × SC) := bd (f_X3_spread n σ (gi σ 1) 0) (fun σ2 => bd (f_X3_firstWith n σ2 (gi σ2 2)) (fun v4 => if v4 = (-1) then some (0, σ2) else LX11_landmarks_33 n (fun σ12 w13 => some (w13, σ12)) n σ2 0 0))
theorem mi_X11_landmarks : MI yX11_landmarks cX11_landmarks 3 (some .int) 0 := ⟨im_X11_landmarks, se_X11_landmarks, in_X11, co_X11_landmarks, by decide, by decide, by decide +kernel⟩
set_option maxRecDepth 100000 in
set_option maxHeartbeats 4000000 in
theorem ct_X11_landmarks (l : Launch) (n : Nat) (G : EN) (A : Nat → Nat) (σ : SC) (sz : Nat) {r0 : Int32} {σ0 : SC} (h : f_X11_landmarks n σ = some (r0, σ0)) : CT l yX11_landmarks cX11_landmarks 3 (some .int) rmX11_landmarks G sz [.ref (A 0)] (wC G A σ) (QI G (va_A (wC G A σ) sz) r0 (wC G A σ0)) := by
  unfold f_X11_landmarks at h
  refine CI.intro (lv := [(0, .ref (A 0))]) (by decide) (Nat.le_of_ble_eq_true rfl) rfl ?_
  intro p e s m args below meth c Q B S hret H locs ls hW hl
  have hx := S.1
  have hb := S.2.1
  refine lv_aload_n hx hb dX11_landmarks_0 rfl (lv_at hl 0 rfl) ?_
  refine gC_X11_levels S hW lk_X11_27 dX11_landmarks_1 ?_
  refine lv_aload_n hx hb dX11_landmarks_4 rfl (lv_at hl 0 rfl) ?_
  refine gC_X11_startSet S hW lk_X11_88 dX11_landmarks_5 ?_
  refine lv_iconst (v := 0) hx hb dX11_landmarks_8 (by decide) ?_
  obtain ⟨σ2, h1, h⟩ := bd_o h
  refine back_v (rest := []) hW (run_V S hW (ct_X3_spread l n G A σ _ (gi σ 1) 0 h1) mi_X3_spread lk_X11_233 (eC_11 G A σ) rfl rfl rfl hl (Nat.le_of_ble_eq_true rfl) dX11_landmarks_9 ⟨Nat.le_of_ble_eq_true rfl, Nat.le_of_ble_eq_true rfl⟩ rfl rfl) (fun H locs hW => ?_)
  refine lv_aload_n hx hb dX11_landmarks_12 rfl (lv_at hl 0 rfl) ?_
  refine gC_X11_levels S hW lk_X11_27 dX11_landmarks_13 ?_
  refine lv_aload_n hx hb dX11_landmarks_16 rfl (lv_at hl 0 rfl) ?_
  refine gC_X11_goalSet S hW lk_X11_91 dX11_landmarks_17 ?_
  obtain ⟨v4, h3, h⟩ := bd_o h
  refine back_i (rest := []) hW (run_V S hW (ct_X3_firstWith l n G A σ2 _ (gi σ2 2) h3) mi_X3_firstWith lk_X11_245 (eC_11 G A σ2) rfl rfl rfl hl (Nat.le_of_ble_eq_true rfl) dX11_landmarks_20 ⟨Nat.le_of_ble_eq_true rfl, Nat.le_of_ble_eq_true rfl⟩ rfl rfl) (fun H locs hW => ?_)
  refine lv_iconst (v := (-1)) hx hb dX11_landmarks_23 (by decide) ?_
  refine bc_ne (tgt := 29) hx hb h dX11_landmarks_24 (by decide) (fun _ h => ?_) (fun _ h => ?_)
  · refine lv_iconst (v := 0) hx hb dX11_landmarks_27 (by decide) ?_
    exact ret_is (wf := wC G A) hret h rfl hW dX11_landmarks_28
  · refine lv_iconst (v := 0) hx hb dX11_landmarks_29 (by decide) ?_
    refine lv_istore_n (lv' := [(1, .int 0), (0, .ref (A 0))]) hx hb dX11_landmarks_30 rfl hl (by decide) rfl (fun ls hl => ?_)
    refine lv_iconst (v := 0) hx hb dX11_landmarks_31 (by decide) ?_
    refine lv_istore_n (lv' := [(2, .int 0), (1, .int 0), (0, .ref (A 0))]) hx hb dX11_landmarks_32 rfl hl (by decide) rfl (fun ls hl => ?_)
    have hL33 : ∀  (K : SC → Int32 → Option (Int32 × SC)), (∀ (σ : SC) (z1 : Int32) (H : Heap) (locs : List Loc) (ls : Array Slot), WS G B s (wC G A σ) H locs → lv_has ls 3 [(1, .int z1)] → K σ z1 = some (r0, σ0) → W p l e rmX11_landmarks s m args below meth c H locs 0 0 Q (F0 m 80 ls [])) → ∀ (k : Nat) (σ : SC) (y1 : Int32) (y2 : Int32)  (H : Heap) (locs : List Loc) (ls : Array Slot), WS G B s (wC G A σ) H locs → lv_has ls 3 [(0, .ref (A 0)), (1, .int y1), (2, .int y2)] → LX11_landmarks_33 n K k σ y1 y2 = some (r0, σ0) → W p l e rmX11_landmarks s m args below meth c H locs 0 0 Q (F0 m 33 ls []) := by
      intro  K hK k
      induction k with
      | zero => intro σ y1 y2 H locs ls hW hl h; rw [LX11_landmarks_33] at h; cases h
      | succ k ih =>
        intro σ y1 y2 H locs ls hW hl h
        rw [LX11_landmarks_33] at h
        refine lv_iload_n hx hb dX11_landmarks_33 rfl (lv_at hl 2 rfl) ?_
        refine lv_bipush (v := 30) hx hb dX11_landmarks_34 (by decide) ?_
        refine bc_ge (tgt := 80) hx hb h dX11_landmarks_36 (by decide) (fun _ h => ?_) (fun _ h => ?_)
        · exact hK σ y1 _ _ _ hW (lv_sub hl [1] rfl) h
        · refine lv_aload_n hx hb dX11_landmarks_39 rfl (lv_at hl 0 rfl) ?_
          refine gC_X11_levels S hW lk_X11_27 dX11_landmarks_40 ?_
          refine lv_aload_n hx hb dX11_landmarks_43 rfl (lv_at hl 0 rfl) ?_
          refine gC_X11_startSet S hW lk_X11_88 dX11_landmarks_44 ?_
          refine lv_iconst (v := 1) hx hb dX11_landmarks_47 (by decide) ?_
          refine lv_iload_n hx hb dX11_landmarks_48 rfl (lv_at hl 2 rfl) ?_
          refine lv_ishl hx hb dX11_landmarks_49 ?_
          obtain ⟨σ6, h5, h⟩ := bd_o h
          refine back_v (rest := []) hW (run_V S hW (ct_X3_spread l n G A σ _ (gi σ 1) (1 <<< (y2 &&& 31)) h5) mi_X3_spread lk_X11_233 (eC_11 G A σ) rfl rfl rfl hl (Nat.le_of_ble_eq_true rfl) dX11_landmarks_50 ⟨Nat.le_of_ble_eq_true rfl, Nat.le_of_ble_eq_true rfl⟩ rfl rfl) (fun H locs hW => ?_)
          refine lv_aload_n hx hb dX11_landmarks_53 rfl (lv_at hl 0 rfl) ?_
          refine gC_X11_levels S hW lk_X11_27 dX11_landmarks_54 ?_
          refine lv_aload_n hx hb dX11_landmarks_57 rfl (lv_at hl 0 rfl) ?_
          refine gC_X11_goalSet S hW lk_X11_91 dX11_landmarks_58 ?_
          obtain ⟨v8, h7, h⟩ := bd_o h
          refine back_i (rest := []) hW (run_V S hW (ct_X3_firstWith l n G A σ6 _ (gi σ6 2) h7) mi_X3_firstWith lk_X11_245 (eC_11 G A σ6) rfl rfl rfl hl (Nat.le_of_ble_eq_true rfl) dX11_landmarks_61 ⟨Nat.le_of_ble_eq_true rfl, Nat.le_of_ble_eq_true rfl⟩ rfl rfl) (fun H locs hW => ?_)
          refine lv_iconst (v := (-1)) hx hb dX11_landmarks_64 (by decide) ?_
          refine bc_ne (tgt := 74) hx hb h dX11_landmarks_65 (by decide) (fun _ h => ?_) (fun _ h => ?_)
          · refine lv_iload_n hx hb dX11_landmarks_68 rfl (lv_at hl 1 rfl) ?_
            refine lv_iconst (v := 1) hx hb dX11_landmarks_69 (by decide) ?_
            refine lv_iload_n hx hb dX11_landmarks_70 rfl (lv_at hl 2 rfl) ?_
            refine lv_ishl hx hb dX11_landmarks_71 ?_
            refine lv_ior hx hb dX11_landmarks_72 ?_
            refine nm_i h (fun v10 h => ?_)
            refine lv_istore_n (lv' := [(1, .int v10), (0, .ref (A 0)), (2, .int y2)]) hx hb dX11_landmarks_73 rfl hl (by decide) rfl (fun ls hl => ?_)
            refine w_iinc (lv' := [(1, .int v10), (0, .ref (A 0))]) hx hb dX11_landmarks_74 hl (k := 2) rfl (by decide) (by decide) rfl h (fun v11 ls hl h => ?_)
            refine lv_goto (tgt := 33) hx hb dX11_landmarks_77 (by decide) ?_
            exact ih σ6 v10 v11 _ _ _ hW (lv_sub hl [2, 1, 0] rfl) h
          · refine w_iinc (lv' := [(0, .ref (A 0)), (1, .int y1)]) hx hb dX11_landmarks_74 hl (k := 2) rfl (by decide) (by decide) rfl h (fun v9 ls hl h => ?_)
            refine lv_goto (tgt := 33) hx hb dX11_landmarks_77 (by decide) ?_
            exact ih σ6 y1 v9 _ _ _ hW (lv_sub hl [1, 2, 0] rfl) h
    refine hL33  _ (fun σ12 w13 H locs ls hW hl h => ?_) n σ2 0 0 _ _ _ hW (lv_sub hl [2, 1, 0] rfl) h
    refine lv_iload_n hx hb dX11_landmarks_80 rfl (lv_at hl 0 rfl) ?_
    exact ret_is (wf := wC G A) hret h rfl hW dX11_landmarks_81
def rmX11_isAhead : Room := { frames := 3, cells := 0, slots := 0, locals := 69 }
def f_X11_isAhead (n : Nat) (σ : SC) (a1 : Int32) (a2 : Int32) : Option (Int32 × SC) := if (f_X11_isFact a1) = 0 then bd2 (f_X11_refuse σ (-1)) (fun v3 σ2 => some (v3, σ2)) else if (f_X11_isFact a2) = 0 then bd2 (f_X11_refuse σ (-1)) (fun v10 σ9 => some (v10, σ9)) else if a1 = a2 then some (0, σ) else bd (f_X3_spread n σ (gi σ 1) (1 <<< (a1 &&& 31))) (fun σ5 => bd (f_X3_firstWith n σ5 (1 <<< (a2 &&& 31))) (fun v7 => if v7 = (-1) then some (1, σ5) else some (0, σ5)))
theorem mi_X11_isAhead : MI yX11_isAhead cX11_isAhead 3 (some .int) 2 := ⟨im_X11_isAhead, se_X11_isAhead, in_X11, co_X11_isAhead, by decide, by decide, by decide +kernel⟩
set_option maxRecDepth 100000 in
set_option maxHeartbeats 4000000 in
theorem ct_X11_isAhead (l : Launch) (n : Nat) (G : EN) (A : Nat → Nat) (σ : SC) (sz : Nat) (a1 : Int32) (a2 : Int32) {r0 : Int32} {σ0 : SC} (h : f_X11_isAhead n σ a1 a2 = some (r0, σ0)) : CT l yX11_isAhead cX11_isAhead 3 (some .int) rmX11_isAhead G sz [.ref (A 0), .int a1, .int a2] (wC G A σ) (QI G (va_A (wC G A σ) sz) r0 (wC G A σ0)) := by
  unfold f_X11_isAhead at h
  refine CI.intro (lv := [(0, .ref (A 0)), (1, .int a1), (2, .int a2)]) (by decide) (Nat.le_of_ble_eq_true rfl) rfl ?_
  intro p e s m args below meth c Q B S hret H locs ls hW hl
  have hx := S.1
  have hb := S.2.1
  refine lv_iload_n hx hb dX11_isAhead_0 rfl (lv_at hl 1 rfl) ?_
  refine back_i (rest := []) hW (run_S S hW (ct_X11_isFact l G A σ _ a1 rfl) ms_X11_isFact lk_X11_239 rfl rfl hl (Nat.le_of_ble_eq_true rfl) dX11_isAhead_1 ⟨Nat.le_of_ble_eq_true rfl, Nat.le_of_ble_eq_true rfl⟩ rfl rfl) (fun H locs hW => ?_)
  refine bz_eq (tgt := 14) hx hb h dX11_isAhead_4 (by decide) (fun _ h => ?_) (fun _ h => ?_)
  · refine lv_aload_n hx hb dX11_isAhead_14 rfl (lv_at hl 0 rfl) ?_
    refine lv_iconst (v := (-1)) hx hb dX11_isAhead_15 (by decide) ?_
    obtain ⟨v3, σ2, h1, h⟩ := bd2_o h
    refine back_i (rest := []) hW (run_V S hW (ct_X11_refuse l G A σ _ (-1) h1) mi_X11_refuse lk_X11_108 (eC_0 G A σ) rfl rfl rfl hl (Nat.le_of_ble_eq_true rfl) dX11_isAhead_16 ⟨Nat.le_of_ble_eq_true rfl, Nat.le_of_ble_eq_true rfl⟩ rfl rfl) (fun H locs hW => ?_)
    exact ret_is (wf := wC G A) hret h rfl hW dX11_isAhead_19
  · refine lv_iload_n hx hb dX11_isAhead_7 rfl (lv_at hl 2 rfl) ?_
    refine back_i (rest := []) hW (run_S S hW (ct_X11_isFact l G A σ _ a2 rfl) ms_X11_isFact lk_X11_239 rfl rfl hl (Nat.le_of_ble_eq_true rfl) dX11_isAhead_8 ⟨Nat.le_of_ble_eq_true rfl, Nat.le_of_ble_eq_true rfl⟩ rfl rfl) (fun H locs hW => ?_)
    refine bz_ne (tgt := 20) hx hb h dX11_isAhead_11 (by decide) (fun _ h => ?_) (fun _ h => ?_)
    · refine lv_aload_n hx hb dX11_isAhead_14 rfl (lv_at hl 0 rfl) ?_
      refine lv_iconst (v := (-1)) hx hb dX11_isAhead_15 (by decide) ?_
      obtain ⟨v10, σ9, h8, h⟩ := bd2_o h
      refine back_i (rest := []) hW (run_V S hW (ct_X11_refuse l G A σ _ (-1) h8) mi_X11_refuse lk_X11_108 (eC_0 G A σ) rfl rfl rfl hl (Nat.le_of_ble_eq_true rfl) dX11_isAhead_16 ⟨Nat.le_of_ble_eq_true rfl, Nat.le_of_ble_eq_true rfl⟩ rfl rfl) (fun H locs hW => ?_)
      exact ret_is (wf := wC G A) hret h rfl hW dX11_isAhead_19
    · refine lv_iload_n hx hb dX11_isAhead_20 rfl (lv_at hl 1 rfl) ?_
      refine lv_iload_n hx hb dX11_isAhead_21 rfl (lv_at hl 2 rfl) ?_
      refine bc_ne (tgt := 27) hx hb h dX11_isAhead_22 (by decide) (fun _ h => ?_) (fun _ h => ?_)
      · refine lv_iconst (v := 0) hx hb dX11_isAhead_25 (by decide) ?_
        exact ret_is (wf := wC G A) hret h rfl hW dX11_isAhead_26
      · refine lv_aload_n hx hb dX11_isAhead_27 rfl (lv_at hl 0 rfl) ?_
        refine gC_X11_levels S hW lk_X11_27 dX11_isAhead_28 ?_
        refine lv_aload_n hx hb dX11_isAhead_31 rfl (lv_at hl 0 rfl) ?_
        refine gC_X11_startSet S hW lk_X11_88 dX11_isAhead_32 ?_
        refine lv_iconst (v := 1) hx hb dX11_isAhead_35 (by decide) ?_
        refine lv_iload_n hx hb dX11_isAhead_36 rfl (lv_at hl 1 rfl) ?_
        refine lv_ishl hx hb dX11_isAhead_37 ?_
        obtain ⟨σ5, h4, h⟩ := bd_o h
        refine back_v (rest := []) hW (run_V S hW (ct_X3_spread l n G A σ _ (gi σ 1) (1 <<< (a1 &&& 31)) h4) mi_X3_spread lk_X11_233 (eC_11 G A σ) rfl rfl rfl hl (Nat.le_of_ble_eq_true rfl) dX11_isAhead_38 ⟨Nat.le_of_ble_eq_true rfl, Nat.le_of_ble_eq_true rfl⟩ rfl rfl) (fun H locs hW => ?_)
        refine lv_aload_n hx hb dX11_isAhead_41 rfl (lv_at hl 0 rfl) ?_
        refine gC_X11_levels S hW lk_X11_27 dX11_isAhead_42 ?_
        refine lv_iconst (v := 1) hx hb dX11_isAhead_45 (by decide) ?_
        refine lv_iload_n hx hb dX11_isAhead_46 rfl (lv_at hl 2 rfl) ?_
        refine lv_ishl hx hb dX11_isAhead_47 ?_
        obtain ⟨v7, h6, h⟩ := bd_o h
        refine back_i (rest := []) hW (run_V S hW (ct_X3_firstWith l n G A σ5 _ (1 <<< (a2 &&& 31)) h6) mi_X3_firstWith lk_X11_245 (eC_11 G A σ5) rfl rfl rfl hl (Nat.le_of_ble_eq_true rfl) dX11_isAhead_48 ⟨Nat.le_of_ble_eq_true rfl, Nat.le_of_ble_eq_true rfl⟩ rfl rfl) (fun H locs hW => ?_)
        refine lv_iconst (v := (-1)) hx hb dX11_isAhead_51 (by decide) ?_
        refine bc_ne (tgt := 59) hx hb h dX11_isAhead_52 (by decide) (fun _ h => ?_) (fun _ h => ?_)
        · refine lv_iconst (v := 1) hx hb dX11_isAhead_55 (by decide) ?_
          refine lv_goto (tgt := 60) hx hb dX11_isAhead_56 (by decide) ?_
          exact ret_is (wf := wC G A) hret h rfl hW dX11_isAhead_60
        · refine lv_iconst (v := 0) hx hb dX11_isAhead_59 (by decide) ?_
          exact ret_is (wf := wC G A) hret h rfl hW dX11_isAhead_60
def rmX11_isTooMany : Room := { frames := 13, cells := 0, slots := 0, locals := 423 }
def f_X11_isTooMany (n : Nat) (σ : SC) : Option (Int32 × SC) := bd (f_X6_explore n σ (gi σ 1)) (fun σ2 => zb (gi σ2 15) (some ((gi σ2 15), σ2)))
theorem mi_X11_isTooMany : MI yX11_isTooMany cX11_isTooMany 1 (some .boolean) 0 := ⟨im_X11_isTooMany, se_X11_isTooMany, in_X11, co_X11_isTooMany, by decide, by decide, by decide +kernel⟩
set_option maxRecDepth 100000 in
set_option maxHeartbeats 4000000 in
theorem ct_X11_isTooMany (l : Launch) (n : Nat) (G : EN) (A : Nat → Nat) (σ : SC) (sz : Nat) {r0 : Int32} {σ0 : SC} (h : f_X11_isTooMany n σ = some (r0, σ0)) : CT l yX11_isTooMany cX11_isTooMany 1 (some .boolean) rmX11_isTooMany G sz [.ref (A 0)] (wC G A σ) (QI G (va_A (wC G A σ) sz) r0 (wC G A σ0)) := by
  unfold f_X11_isTooMany at h
  refine CI.intro (lv := [(0, .ref (A 0))]) (by decide) (Nat.le_of_ble_eq_true rfl) rfl ?_
  intro p e s m args below meth c Q B S hret H locs ls hW hl
  have hx := S.1
  have hb := S.2.1
  refine lv_aload_n hx hb dX11_isTooMany_0 rfl (lv_at hl 0 rfl) ?_
  refine gC_X11_reach S hW lk_X11_43 dX11_isTooMany_1 ?_
  refine lv_aload_n hx hb dX11_isTooMany_4 rfl (lv_at hl 0 rfl) ?_
  refine gC_X11_startSet S hW lk_X11_88 dX11_isTooMany_5 ?_
  obtain ⟨σ2, h1, h⟩ := bd_o h
  refine back_v (rest := []) hW (run_V S hW (ct_X6_explore l n G A σ _ (gi σ 1) h1) mi_X6_explore lk_X11_383 (eC_17 G A σ) rfl rfl rfl hl (Nat.le_of_ble_eq_true rfl) dX11_isTooMany_8 ⟨Nat.le_of_ble_eq_true rfl, Nat.le_of_ble_eq_true rfl⟩ rfl rfl) (fun H locs hW => ?_)
  refine lv_aload_n hx hb dX11_isTooMany_11 rfl (lv_at hl 0 rfl) ?_
  refine gC_X11_reach S hW lk_X11_43 dX11_isTooMany_12 ?_
  refine gC_X6_tooMany S hW lk_X11_386 dX11_isTooMany_15 ?_
  obtain ⟨hz3, h⟩ := zb_o h
  exact ret_is (wf := wC G A) hret h (nar_z hz3) hW dX11_isTooMany_18
def rmX11_reached : Room := { frames := 14, cells := 0, slots := 0, locals := 443 }
def f_X11_reached (n : Nat) (σ : SC) : Option (Int32 × SC) := bd2 (f_X11_isTooMany n σ) (fun v3 σ2 => if v3 = 0 then some ((gi σ2 14), σ2) else some (0, σ2))
theorem mi_X11_reached : MI yX11_reached cX11_reached 1 (some .int) 0 := ⟨im_X11_reached, se_X11_reached, in_X11, co_X11_reached, by decide, by decide, by decide +kernel⟩
set_option maxRecDepth 100000 in
set_option maxHeartbeats 4000000 in
theorem ct_X11_reached (l : Launch) (n : Nat) (G : EN) (A : Nat → Nat) (σ : SC) (sz : Nat) {r0 : Int32} {σ0 : SC} (h : f_X11_reached n σ = some (r0, σ0)) : CT l yX11_reached cX11_reached 1 (some .int) rmX11_reached G sz [.ref (A 0)] (wC G A σ) (QI G (va_A (wC G A σ) sz) r0 (wC G A σ0)) := by
  unfold f_X11_reached at h
  refine CI.intro (lv := [(0, .ref (A 0))]) (by decide) (Nat.le_of_ble_eq_true rfl) rfl ?_
  intro p e s m args below meth c Q B S hret H locs ls hW hl
  have hx := S.1
  have hb := S.2.1
  refine lv_aload_n hx hb dX11_reached_0 rfl (lv_at hl 0 rfl) ?_
  obtain ⟨v3, σ2, h1, h⟩ := bd2_o h
  refine back_i (rest := []) hW (run_V S hW (ct_X11_isTooMany l n G A σ _ h1) mi_X11_isTooMany lk_X11_270 (eC_0 G A σ) rfl rfl rfl hl (Nat.le_of_ble_eq_true rfl) dX11_reached_1 ⟨Nat.le_of_ble_eq_true rfl, Nat.le_of_ble_eq_true rfl⟩ rfl rfl) (fun H locs hW => ?_)
  refine bz_eq (tgt := 11) hx hb h dX11_reached_4 (by decide) (fun _ h => ?_) (fun _ h => ?_)
  · refine lv_aload_n hx hb dX11_reached_11 rfl (lv_at hl 0 rfl) ?_
    refine gC_X11_reach S hW lk_X11_43 dX11_reached_12 ?_
    refine gC_X6_count S hW lk_X11_274 dX11_reached_15 ?_
    exact ret_is (wf := wC G A) hret h rfl hW dX11_reached_18
  · refine lv_iconst (v := 0) hx hb dX11_reached_7 (by decide) ?_
    refine lv_goto (tgt := 18) hx hb dX11_reached_8 (by decide) ?_
    exact ret_is (wf := wC G A) hret h rfl hW dX11_reached_18
def rmX11_state : Room := { frames := 14, cells := 0, slots := 0, locals := 443 }
def f_X11_state (n : Nat) (σ : SC) (a1 : Int32) : Option (Int32 × SC) := bd2 (f_X11_isTooMany n σ) (fun v3 σ2 => if v3 = 0 then if (f_X6_hasNumber σ2 a1) = 0 then bd2 (f_X11_refuse σ2 (-5)) (fun v10 σ9 => some (v10, σ9)) else ld (ga σ2 10) 300 a1 (fun v7 => some (v7, σ2)) else bd2 (f_X11_refuse σ2 (-5)) (fun v6 σ5 => some (v6, σ5)))
theorem mi_X11_state : MI yX11_state cX11_state 2 (some .int) 1 := ⟨im_X11_state, se_X11_state, in_X11, co_X11_state, by decide, by decide, by decide +kernel⟩
set_option maxRecDepth 100000 in
set_option maxHeartbeats 4000000 in
theorem ct_X11_state (l : Launch) (n : Nat) (G : EN) (A : Nat → Nat) (σ : SC) (sz : Nat) (a1 : Int32) {r0 : Int32} {σ0 : SC} (h : f_X11_state n σ a1 = some (r0, σ0)) : CT l yX11_state cX11_state 2 (some .int) rmX11_state G sz [.ref (A 0), .int a1] (wC G A σ) (QI G (va_A (wC G A σ) sz) r0 (wC G A σ0)) := by
  unfold f_X11_state at h
  refine CI.intro (lv := [(0, .ref (A 0)), (1, .int a1)]) (by decide) (Nat.le_of_ble_eq_true rfl) rfl ?_
  intro p e s m args below meth c Q B S hret H locs ls hW hl
  have hx := S.1
  have hb := S.2.1
  refine lv_aload_n hx hb dX11_state_0 rfl (lv_at hl 0 rfl) ?_
  obtain ⟨v3, σ2, h1, h⟩ := bd2_o h
  refine back_i (rest := []) hW (run_V S hW (ct_X11_isTooMany l n G A σ _ h1) mi_X11_isTooMany lk_X11_270 (eC_0 G A σ) rfl rfl rfl hl (Nat.le_of_ble_eq_true rfl) dX11_state_1 ⟨Nat.le_of_ble_eq_true rfl, Nat.le_of_ble_eq_true rfl⟩ rfl rfl) (fun H locs hW => ?_)
  refine bz_ne (tgt := 18) hx hb h dX11_state_4 (by decide) (fun _ h => ?_) (fun _ h => ?_)
  · refine lv_aload_n hx hb dX11_state_7 rfl (lv_at hl 0 rfl) ?_
    refine gC_X11_reach S hW lk_X11_43 dX11_state_8 ?_
    refine lv_iload_n hx hb dX11_state_11 rfl (lv_at hl 1 rfl) ?_
    refine back_i (rest := []) hW (run_V S hW (ct_X6_hasNumber l G A σ2 _ a1 rfl) mi_X6_hasNumber lk_X11_275 (eC_17 G A σ2) rfl rfl rfl hl (Nat.le_of_ble_eq_true rfl) dX11_state_12 ⟨Nat.le_of_ble_eq_true rfl, Nat.le_of_ble_eq_true rfl⟩ rfl rfl) (fun H locs hW => ?_)
    refine bz_ne (tgt := 25) hx hb h dX11_state_15 (by decide) (fun _ h => ?_) (fun _ h => ?_)
    · refine lv_aload_n hx hb dX11_state_18 rfl (lv_at hl 0 rfl) ?_
      refine lv_bipush (v := (-5)) hx hb dX11_state_19 (by decide) ?_
      obtain ⟨v10, σ9, h8, h⟩ := bd2_o h
      refine back_i (rest := []) hW (run_V S hW (ct_X11_refuse l G A σ2 _ (-5) h8) mi_X11_refuse lk_X11_108 (eC_0 G A σ2) rfl rfl rfl hl (Nat.le_of_ble_eq_true rfl) dX11_state_21 ⟨Nat.le_of_ble_eq_true rfl, Nat.le_of_ble_eq_true rfl⟩ rfl rfl) (fun H locs hW => ?_)
      exact ret_is (wf := wC G A) hret h rfl hW dX11_state_24
    · refine lv_aload_n hx hb dX11_state_25 rfl (lv_at hl 0 rfl) ?_
      refine gC_X11_reach S hW lk_X11_43 dX11_state_26 ?_
      refine gC_X6_states S hW lk_X11_278 dX11_state_29 ?_
      refine lv_iload_n hx hb dX11_state_32 rfl (lv_at hl 1 rfl) ?_
      refine aC_18 S hW h dX11_state_33 (fun v7 _ h => ?_)
      exact ret_is (wf := wC G A) hret h rfl hW dX11_state_34
  · refine lv_aload_n hx hb dX11_state_18 rfl (lv_at hl 0 rfl) ?_
    refine lv_bipush (v := (-5)) hx hb dX11_state_19 (by decide) ?_
    obtain ⟨v6, σ5, h4, h⟩ := bd2_o h
    refine back_i (rest := []) hW (run_V S hW (ct_X11_refuse l G A σ2 _ (-5) h4) mi_X11_refuse lk_X11_108 (eC_0 G A σ2) rfl rfl rfl hl (Nat.le_of_ble_eq_true rfl) dX11_state_21 ⟨Nat.le_of_ble_eq_true rfl, Nat.le_of_ble_eq_true rfl⟩ rfl rfl) (fun H locs hW => ?_)
    exact ret_is (wf := wC G A) hret h rfl hW dX11_state_24
def rmX11_far : Room := { frames := 14, cells := 0, slots := 0, locals := 443 }
def f_X11_far (n : Nat) (σ : SC) (a1 : Int32) : Option (Int32 × SC) := bd2 (f_X11_isTooMany n σ) (fun v3 σ2 => if v3 = 0 then if (f_X6_hasNumber σ2 a1) = 0 then bd2 (f_X11_refuse σ2 (-5)) (fun v13 σ12 => some (v13, σ12)) else bd (f_X4_measure n σ2) (fun σ8 => bd (f_X4_costTo σ8 a1) (fun v10 => some (v10, σ8))) else bd2 (f_X11_refuse σ2 (-5)) (fun v6 σ5 => some (v6, σ5)))
theorem mi_X11_far : MI yX11_far cX11_far 2 (some .int) 1 := ⟨im_X11_far, se_X11_far, in_X11, co_X11_far, by decide, by decide, by decide +kernel⟩
set_option maxRecDepth 100000 in
set_option maxHeartbeats 4000000 in
theorem ct_X11_far (l : Launch) (n : Nat) (G : EN) (A : Nat → Nat) (σ : SC) (sz : Nat) (a1 : Int32) {r0 : Int32} {σ0 : SC} (h : f_X11_far n σ a1 = some (r0, σ0)) : CT l yX11_far cX11_far 2 (some .int) rmX11_far G sz [.ref (A 0), .int a1] (wC G A σ) (QI G (va_A (wC G A σ) sz) r0 (wC G A σ0)) := by
  unfold f_X11_far at h
  refine CI.intro (lv := [(0, .ref (A 0)), (1, .int a1)]) (by decide) (Nat.le_of_ble_eq_true rfl) rfl ?_
  intro p e s m args below meth c Q B S hret H locs ls hW hl
  have hx := S.1
  have hb := S.2.1
  refine lv_aload_n hx hb dX11_far_0 rfl (lv_at hl 0 rfl) ?_
  obtain ⟨v3, σ2, h1, h⟩ := bd2_o h
  refine back_i (rest := []) hW (run_V S hW (ct_X11_isTooMany l n G A σ _ h1) mi_X11_isTooMany lk_X11_270 (eC_0 G A σ) rfl rfl rfl hl (Nat.le_of_ble_eq_true rfl) dX11_far_1 ⟨Nat.le_of_ble_eq_true rfl, Nat.le_of_ble_eq_true rfl⟩ rfl rfl) (fun H locs hW => ?_)
  refine bz_ne (tgt := 18) hx hb h dX11_far_4 (by decide) (fun _ h => ?_) (fun _ h => ?_)
  · refine lv_aload_n hx hb dX11_far_7 rfl (lv_at hl 0 rfl) ?_
    refine gC_X11_reach S hW lk_X11_43 dX11_far_8 ?_
    refine lv_iload_n hx hb dX11_far_11 rfl (lv_at hl 1 rfl) ?_
    refine back_i (rest := []) hW (run_V S hW (ct_X6_hasNumber l G A σ2 _ a1 rfl) mi_X6_hasNumber lk_X11_275 (eC_17 G A σ2) rfl rfl rfl hl (Nat.le_of_ble_eq_true rfl) dX11_far_12 ⟨Nat.le_of_ble_eq_true rfl, Nat.le_of_ble_eq_true rfl⟩ rfl rfl) (fun H locs hW => ?_)
    refine bz_ne (tgt := 25) hx hb h dX11_far_15 (by decide) (fun _ h => ?_) (fun _ h => ?_)
    · refine lv_aload_n hx hb dX11_far_18 rfl (lv_at hl 0 rfl) ?_
      refine lv_bipush (v := (-5)) hx hb dX11_far_19 (by decide) ?_
      obtain ⟨v13, σ12, h11, h⟩ := bd2_o h
      refine back_i (rest := []) hW (run_V S hW (ct_X11_refuse l G A σ2 _ (-5) h11) mi_X11_refuse lk_X11_108 (eC_0 G A σ2) rfl rfl rfl hl (Nat.le_of_ble_eq_true rfl) dX11_far_21 ⟨Nat.le_of_ble_eq_true rfl, Nat.le_of_ble_eq_true rfl⟩ rfl rfl) (fun H locs hW => ?_)
      exact ret_is (wf := wC G A) hret h rfl hW dX11_far_24
    · refine lv_aload_n hx hb dX11_far_25 rfl (lv_at hl 0 rfl) ?_
      refine gC_X11_paths S hW lk_X11_52 dX11_far_26 ?_
      obtain ⟨σ8, h7, h⟩ := bd_o h
      refine back_v (rest := []) hW (run_V S hW (ct_X4_measure l n G A σ2 _ h7) mi_X4_measure lk_X11_281 (eC_20 G A σ2) rfl rfl rfl hl (Nat.le_of_ble_eq_true rfl) dX11_far_29 ⟨Nat.le_of_ble_eq_true rfl, Nat.le_of_ble_eq_true rfl⟩ rfl rfl) (fun H locs hW => ?_)
      refine lv_aload_n hx hb dX11_far_32 rfl (lv_at hl 0 rfl) ?_
      refine gC_X11_paths S hW lk_X11_52 dX11_far_33 ?_
      refine lv_iload_n hx hb dX11_far_36 rfl (lv_at hl 1 rfl) ?_
      obtain ⟨v10, h9, h⟩ := bd_o h
      refine back_i (rest := []) hW (run_V S hW (ct_X4_costTo l G A σ8 _ a1 h9) mi_X4_costTo lk_X11_284 (eC_20 G A σ8) rfl rfl rfl hl (Nat.le_of_ble_eq_true rfl) dX11_far_37 ⟨Nat.le_of_ble_eq_true rfl, Nat.le_of_ble_eq_true rfl⟩ rfl rfl) (fun H locs hW => ?_)
      exact ret_is (wf := wC G A) hret h rfl hW dX11_far_40
  · refine lv_aload_n hx hb dX11_far_18 rfl (lv_at hl 0 rfl) ?_
    refine lv_bipush (v := (-5)) hx hb dX11_far_19 (by decide) ?_
    obtain ⟨v6, σ5, h4, h⟩ := bd2_o h
    refine back_i (rest := []) hW (run_V S hW (ct_X11_refuse l G A σ2 _ (-5) h4) mi_X11_refuse lk_X11_108 (eC_0 G A σ2) rfl rfl rfl hl (Nat.le_of_ble_eq_true rfl) dX11_far_21 ⟨Nat.le_of_ble_eq_true rfl, Nat.le_of_ble_eq_true rfl⟩ rfl rfl) (fun H locs hW => ?_)
    exact ret_is (wf := wC G A) hret h rfl hW dX11_far_24
def rmX11_numberOf : Room := { frames := 14, cells := 0, slots := 0, locals := 443 }
def f_X11_numberOf (n : Nat) (σ : SC) (a1 : Int32) : Option (Int32 × SC) := bd2 (f_X11_isTooMany n σ) (fun v3 σ2 => if v3 = 0 then if (f_X11_isFacts a1) = 0 then bd2 (f_X11_refuseShifted σ2 (-6)) (fun v6 σ5 => some (v6, σ5)) else bd (f_X6_find n σ2 a1) (fun v8 => some (v8, σ2)) else bd2 (f_X11_refuseShifted σ2 (-5)) (fun v11 σ10 => some (v11, σ10)))
theorem mi_X11_numberOf : MI yX11_numberOf cX11_numberOf 2 (some .int) 1 := ⟨im_X11_numberOf, se_X11_numberOf, in_X11, co_X11_numberOf, by decide, by decide, by decide +kernel⟩
set_option maxRecDepth 100000 in
set_option maxHeartbeats 4000000 in
theorem ct_X11_numberOf (l : Launch) (n : Nat) (G : EN) (A : Nat → Nat) (σ : SC) (sz : Nat) (a1 : Int32) {r0 : Int32} {σ0 : SC} (h : f_X11_numberOf n σ a1 = some (r0, σ0)) : CT l yX11_numberOf cX11_numberOf 2 (some .int) rmX11_numberOf G sz [.ref (A 0), .int a1] (wC G A σ) (QI G (va_A (wC G A σ) sz) r0 (wC G A σ0)) := by
  unfold f_X11_numberOf at h
  refine CI.intro (lv := [(0, .ref (A 0)), (1, .int a1)]) (by decide) (Nat.le_of_ble_eq_true rfl) rfl ?_
  intro p e s m args below meth c Q B S hret H locs ls hW hl
  have hx := S.1
  have hb := S.2.1
  refine lv_aload_n hx hb dX11_numberOf_0 rfl (lv_at hl 0 rfl) ?_
  obtain ⟨v3, σ2, h1, h⟩ := bd2_o h
  refine back_i (rest := []) hW (run_V S hW (ct_X11_isTooMany l n G A σ _ h1) mi_X11_isTooMany lk_X11_270 (eC_0 G A σ) rfl rfl rfl hl (Nat.le_of_ble_eq_true rfl) dX11_numberOf_1 ⟨Nat.le_of_ble_eq_true rfl, Nat.le_of_ble_eq_true rfl⟩ rfl rfl) (fun H locs hW => ?_)
  refine bz_eq (tgt := 14) hx hb h dX11_numberOf_4 (by decide) (fun _ h => ?_) (fun _ h => ?_)
  · refine lv_iload_n hx hb dX11_numberOf_14 rfl (lv_at hl 1 rfl) ?_
    refine back_i (rest := []) hW (run_S S hW (ct_X11_isFacts l G A σ2 _ a1 rfl) ms_X11_isFacts lk_X11_173 rfl rfl hl (Nat.le_of_ble_eq_true rfl) dX11_numberOf_15 ⟨Nat.le_of_ble_eq_true rfl, Nat.le_of_ble_eq_true rfl⟩ rfl rfl) (fun H locs hW => ?_)
    refine bz_eq (tgt := 32) hx hb h dX11_numberOf_18 (by decide) (fun _ h => ?_) (fun _ h => ?_)
    · refine lv_aload_n hx hb dX11_numberOf_32 rfl (lv_at hl 0 rfl) ?_
      refine lv_bipush (v := (-6)) hx hb dX11_numberOf_33 (by decide) ?_
      obtain ⟨v6, σ5, h4, h⟩ := bd2_o h
      refine back_i (rest := []) hW (run_V S hW (ct_X11_refuseShifted l G A σ2 _ (-6) h4) mi_X11_refuseShifted lk_X11_242 (eC_0 G A σ2) rfl rfl rfl hl (Nat.le_of_ble_eq_true rfl) dX11_numberOf_35 ⟨Nat.le_of_ble_eq_true rfl, Nat.le_of_ble_eq_true rfl⟩ rfl rfl) (fun H locs hW => ?_)
      exact ret_is (wf := wC G A) hret h rfl hW dX11_numberOf_38
    · refine lv_aload_n hx hb dX11_numberOf_21 rfl (lv_at hl 0 rfl) ?_
      refine gC_X11_reach S hW lk_X11_43 dX11_numberOf_22 ?_
      refine lv_iload_n hx hb dX11_numberOf_25 rfl (lv_at hl 1 rfl) ?_
      obtain ⟨v8, h7, h⟩ := bd_o h
      refine back_i (rest := []) hW (run_V S hW (ct_X6_find l n G A σ2 _ a1 h7) mi_X6_find lk_X11_287 (eC_17 G A σ2) rfl rfl rfl hl (Nat.le_of_ble_eq_true rfl) dX11_numberOf_26 ⟨Nat.le_of_ble_eq_true rfl, Nat.le_of_ble_eq_true rfl⟩ rfl rfl) (fun H locs hW => ?_)
      refine lv_goto (tgt := 38) hx hb dX11_numberOf_29 (by decide) ?_
      exact ret_is (wf := wC G A) hret h rfl hW dX11_numberOf_38
  · refine lv_aload_n hx hb dX11_numberOf_7 rfl (lv_at hl 0 rfl) ?_
    refine lv_bipush (v := (-5)) hx hb dX11_numberOf_8 (by decide) ?_
    obtain ⟨v11, σ10, h9, h⟩ := bd2_o h
    refine back_i (rest := []) hW (run_V S hW (ct_X11_refuseShifted l G A σ2 _ (-5) h9) mi_X11_refuseShifted lk_X11_242 (eC_0 G A σ2) rfl rfl rfl hl (Nat.le_of_ble_eq_true rfl) dX11_numberOf_10 ⟨Nat.le_of_ble_eq_true rfl, Nat.le_of_ble_eq_true rfl⟩ rfl rfl) (fun H locs hW => ?_)
    exact ret_is (wf := wC G A) hret h rfl hW dX11_numberOf_13
def rmX11_excluded : Room := { frames := 14, cells := 0, slots := 0, locals := 443 }
def f_X11_excluded (n : Nat) (σ : SC) (a1 : Int32) : Option (Int32 × SC) := if (f_X11_isFact a1) = 0 then bd2 (f_X11_refuse σ (-1)) (fun v11 σ10 => some (v11, σ10)) else bd2 (f_X11_isTooMany n σ) (fun v3 σ2 => if v3 = 0 then bd (f_X6_everWith n σ2 (1 <<< (a1 &&& 31))) (fun v5 => some ((1073741823 &&& (v5 ^^^ (-1))), σ2)) else bd2 (f_X11_refuse σ2 (-5)) (fun v8 σ7 => some (v8, σ7)))
theorem mi_X11_excluded : MI yX11_excluded cX11_excluded 2 (some .int) 1 := ⟨im_X11_excluded, se_X11_excluded, in_X11, co_X11_excluded, by decide, by decide, by decide +kernel⟩
set_option maxRecDepth 100000 in
set_option maxHeartbeats 4000000 in
theorem ct_X11_excluded (l : Launch) (n : Nat) (G : EN) (A : Nat → Nat) (σ : SC) (sz : Nat) (a1 : Int32) {r0 : Int32} {σ0 : SC} (h : f_X11_excluded n σ a1 = some (r0, σ0)) : CT l yX11_excluded cX11_excluded 2 (some .int) rmX11_excluded G sz [.ref (A 0), .int a1] (wC G A σ) (QI G (va_A (wC G A σ) sz) r0 (wC G A σ0)) := by
  unfold f_X11_excluded at h
  refine CI.intro (lv := [(0, .ref (A 0)), (1, .int a1)]) (by decide) (Nat.le_of_ble_eq_true rfl) rfl ?_
  intro p e s m args below meth c Q B S hret H locs ls hW hl
  have hx := S.1
  have hb := S.2.1
  refine lv_iload_n hx hb dX11_excluded_0 rfl (lv_at hl 1 rfl) ?_
  refine back_i (rest := []) hW (run_S S hW (ct_X11_isFact l G A σ _ a1 rfl) ms_X11_isFact lk_X11_239 rfl rfl hl (Nat.le_of_ble_eq_true rfl) dX11_excluded_1 ⟨Nat.le_of_ble_eq_true rfl, Nat.le_of_ble_eq_true rfl⟩ rfl rfl) (fun H locs hW => ?_)
  refine bz_ne (tgt := 13) hx hb h dX11_excluded_4 (by decide) (fun _ h => ?_) (fun _ h => ?_)
  · refine lv_aload_n hx hb dX11_excluded_7 rfl (lv_at hl 0 rfl) ?_
    refine lv_iconst (v := (-1)) hx hb dX11_excluded_8 (by decide) ?_
    obtain ⟨v11, σ10, h9, h⟩ := bd2_o h
    refine back_i (rest := []) hW (run_V S hW (ct_X11_refuse l G A σ _ (-1) h9) mi_X11_refuse lk_X11_108 (eC_0 G A σ) rfl rfl rfl hl (Nat.le_of_ble_eq_true rfl) dX11_excluded_9 ⟨Nat.le_of_ble_eq_true rfl, Nat.le_of_ble_eq_true rfl⟩ rfl rfl) (fun H locs hW => ?_)
    exact ret_is (wf := wC G A) hret h rfl hW dX11_excluded_12
  · refine lv_aload_n hx hb dX11_excluded_13 rfl (lv_at hl 0 rfl) ?_
    obtain ⟨v3, σ2, h1, h⟩ := bd2_o h
    refine back_i (rest := []) hW (run_V S hW (ct_X11_isTooMany l n G A σ _ h1) mi_X11_isTooMany lk_X11_270 (eC_0 G A σ) rfl rfl rfl hl (Nat.le_of_ble_eq_true rfl) dX11_excluded_14 ⟨Nat.le_of_ble_eq_true rfl, Nat.le_of_ble_eq_true rfl⟩ rfl rfl) (fun H locs hW => ?_)
    refine bz_eq (tgt := 27) hx hb h dX11_excluded_17 (by decide) (fun _ h => ?_) (fun _ h => ?_)
    · refine lv_ldcw (v := 1073741823) hx hb S.2.2.2.1 (S.2.2.2.2 _ lk_X11_290) dX11_excluded_27 ?_
      refine lv_aload_n hx hb dX11_excluded_30 rfl (lv_at hl 0 rfl) ?_
      refine gC_X11_reach S hW lk_X11_43 dX11_excluded_31 ?_
      refine lv_iconst (v := 1) hx hb dX11_excluded_34 (by decide) ?_
      refine lv_iload_n hx hb dX11_excluded_35 rfl (lv_at hl 1 rfl) ?_
      refine lv_ishl hx hb dX11_excluded_36 ?_
      obtain ⟨v5, h4, h⟩ := bd_o h
      refine back_i (rest := [.int 1073741823]) hW (run_V S hW (ct_X6_everWith l n G A σ2 _ (1 <<< (a1 &&& 31)) h4) mi_X6_everWith lk_X11_291 (eC_17 G A σ2) rfl rfl rfl hl (Nat.le_of_ble_eq_true rfl) dX11_excluded_37 ⟨Nat.le_of_ble_eq_true rfl, Nat.le_of_ble_eq_true rfl⟩ rfl rfl) (fun H locs hW => ?_)
      refine lv_iconst (v := (-1)) hx hb dX11_excluded_40 (by decide) ?_
      refine lv_ixor hx hb dX11_excluded_41 ?_
      refine lv_iand hx hb dX11_excluded_42 ?_
      exact ret_is (wf := wC G A) hret h rfl hW dX11_excluded_43
    · refine lv_aload_n hx hb dX11_excluded_20 rfl (lv_at hl 0 rfl) ?_
      refine lv_bipush (v := (-5)) hx hb dX11_excluded_21 (by decide) ?_
      obtain ⟨v8, σ7, h6, h⟩ := bd2_o h
      refine back_i (rest := []) hW (run_V S hW (ct_X11_refuse l G A σ2 _ (-5) h6) mi_X11_refuse lk_X11_108 (eC_0 G A σ2) rfl rfl rfl hl (Nat.le_of_ble_eq_true rfl) dX11_excluded_23 ⟨Nat.le_of_ble_eq_true rfl, Nat.le_of_ble_eq_true rfl⟩ rfl rfl) (fun H locs hW => ?_)
      exact ret_is (wf := wC G A) hret h rfl hW dX11_excluded_26
def rmX11_best : Room := { frames := 14, cells := 0, slots := 0, locals := 447 }
def f_X11_best (n : Nat) (σ : SC) (a1 : Int32) : Option (Int32 × SC) := if a1 < 0 then bd2 (f_X11_refuseShifted σ (-5)) (fun v3 σ2 => some (v3, σ2)) else if 1 < a1 then bd2 (f_X11_refuseShifted σ (-5)) (fun v6 σ5 => some (v6, σ5)) else bd2 (f_X11_isTooMany n σ) (fun v9 σ8 => if v9 = 0 then bd (f_X4_choose n σ8 (gi σ8 2)) (fun σ11 => if (gi σ11 20) = 0 then some ((-1), σ11) else if a1 = 0 then some ((gi σ11 22), σ11) else some ((gi σ11 21), σ11)) else bd2 (f_X11_refuseShifted σ8 (-5)) (fun v14 σ13 => some (v14, σ13)))
theorem mi_X11_best : MI yX11_best cX11_best 2 (some .int) 1 := ⟨im_X11_best, se_X11_best, in_X11, co_X11_best, by decide, by decide, by decide +kernel⟩
set_option maxRecDepth 100000 in
set_option maxHeartbeats 4000000 in
theorem ct_X11_best (l : Launch) (n : Nat) (G : EN) (A : Nat → Nat) (σ : SC) (sz : Nat) (a1 : Int32) {r0 : Int32} {σ0 : SC} (h : f_X11_best n σ a1 = some (r0, σ0)) : CT l yX11_best cX11_best 2 (some .int) rmX11_best G sz [.ref (A 0), .int a1] (wC G A σ) (QI G (va_A (wC G A σ) sz) r0 (wC G A σ0)) := by
  unfold f_X11_best at h
  refine CI.intro (lv := [(0, .ref (A 0)), (1, .int a1)]) (by decide) (Nat.le_of_ble_eq_true rfl) rfl ?_
  intro p e s m args below meth c Q B S hret H locs ls hW hl
  have hx := S.1
  have hb := S.2.1
  refine lv_iload_n hx hb dX11_best_0 rfl (lv_at hl 1 rfl) ?_
  refine bz_lt (tgt := 16) hx hb h dX11_best_1 (by decide) (fun _ h => ?_) (fun _ h => ?_)
  · refine lv_aload_n hx hb dX11_best_16 rfl (lv_at hl 0 rfl) ?_
    refine lv_bipush (v := (-5)) hx hb dX11_best_17 (by decide) ?_
    obtain ⟨v3, σ2, h1, h⟩ := bd2_o h
    refine back_i (rest := []) hW (run_V S hW (ct_X11_refuseShifted l G A σ _ (-5) h1) mi_X11_refuseShifted lk_X11_242 (eC_0 G A σ) rfl rfl rfl hl (Nat.le_of_ble_eq_true rfl) dX11_best_19 ⟨Nat.le_of_ble_eq_true rfl, Nat.le_of_ble_eq_true rfl⟩ rfl rfl) (fun H locs hW => ?_)
    exact ret_is (wf := wC G A) hret h rfl hW dX11_best_22
  · refine lv_iload_n hx hb dX11_best_4 rfl (lv_at hl 1 rfl) ?_
    refine lv_iconst (v := 1) hx hb dX11_best_5 (by decide) ?_
    refine bc_gt (tgt := 16) hx hb h dX11_best_6 (by decide) (fun _ h => ?_) (fun _ h => ?_)
    · refine lv_aload_n hx hb dX11_best_16 rfl (lv_at hl 0 rfl) ?_
      refine lv_bipush (v := (-5)) hx hb dX11_best_17 (by decide) ?_
      obtain ⟨v6, σ5, h4, h⟩ := bd2_o h
      refine back_i (rest := []) hW (run_V S hW (ct_X11_refuseShifted l G A σ _ (-5) h4) mi_X11_refuseShifted lk_X11_242 (eC_0 G A σ) rfl rfl rfl hl (Nat.le_of_ble_eq_true rfl) dX11_best_19 ⟨Nat.le_of_ble_eq_true rfl, Nat.le_of_ble_eq_true rfl⟩ rfl rfl) (fun H locs hW => ?_)
      exact ret_is (wf := wC G A) hret h rfl hW dX11_best_22
    · refine lv_aload_n hx hb dX11_best_9 rfl (lv_at hl 0 rfl) ?_
      obtain ⟨v9, σ8, h7, h⟩ := bd2_o h
      refine back_i (rest := []) hW (run_V S hW (ct_X11_isTooMany l n G A σ _ h7) mi_X11_isTooMany lk_X11_270 (eC_0 G A σ) rfl rfl rfl hl (Nat.le_of_ble_eq_true rfl) dX11_best_10 ⟨Nat.le_of_ble_eq_true rfl, Nat.le_of_ble_eq_true rfl⟩ rfl rfl) (fun H locs hW => ?_)
      refine bz_eq (tgt := 23) hx hb h dX11_best_13 (by decide) (fun _ h => ?_) (fun _ h => ?_)
      · refine lv_aload_n hx hb dX11_best_23 rfl (lv_at hl 0 rfl) ?_
        refine gC_X11_paths S hW lk_X11_52 dX11_best_24 ?_
        refine lv_aload_n hx hb dX11_best_27 rfl (lv_at hl 0 rfl) ?_
        refine gC_X11_goalSet S hW lk_X11_91 dX11_best_28 ?_
        obtain ⟨σ11, h10, h⟩ := bd_o h
        refine back_v (rest := []) hW (run_V S hW (ct_X4_choose l n G A σ8 _ (gi σ8 2) h10) mi_X4_choose lk_X11_294 (eC_20 G A σ8) rfl rfl rfl hl (Nat.le_of_ble_eq_true rfl) dX11_best_31 ⟨Nat.le_of_ble_eq_true rfl, Nat.le_of_ble_eq_true rfl⟩ rfl rfl) (fun H locs hW => ?_)
        refine lv_aload_n hx hb dX11_best_34 rfl (lv_at hl 0 rfl) ?_
        refine gC_X11_paths S hW lk_X11_52 dX11_best_35 ?_
        refine gC_X4_found S hW lk_X11_297 dX11_best_38 ?_
        refine bz_ne (tgt := 46) hx hb h dX11_best_41 (by decide) (fun _ h => ?_) (fun _ h => ?_)
        · refine lv_iconst (v := (-1)) hx hb dX11_best_44 (by decide) ?_
          exact ret_is (wf := wC G A) hret h rfl hW dX11_best_45
        · refine lv_iload_n hx hb dX11_best_46 rfl (lv_at hl 1 rfl) ?_
          refine bz_ne (tgt := 60) hx hb h dX11_best_47 (by decide) (fun _ h => ?_) (fun _ h => ?_)
          · refine lv_aload_n hx hb dX11_best_50 rfl (lv_at hl 0 rfl) ?_
            refine gC_X11_paths S hW lk_X11_52 dX11_best_51 ?_
            refine gC_X4_planCost S hW lk_X11_301 dX11_best_54 ?_
            refine lv_goto (tgt := 67) hx hb dX11_best_57 (by decide) ?_
            exact ret_is (wf := wC G A) hret h rfl hW dX11_best_67
          · refine lv_aload_n hx hb dX11_best_60 rfl (lv_at hl 0 rfl) ?_
            refine gC_X11_paths S hW lk_X11_52 dX11_best_61 ?_
            refine gC_X4_planLength S hW lk_X11_304 dX11_best_64 ?_
            exact ret_is (wf := wC G A) hret h rfl hW dX11_best_67
      · refine lv_aload_n hx hb dX11_best_16 rfl (lv_at hl 0 rfl) ?_
        refine lv_bipush (v := (-5)) hx hb dX11_best_17 (by decide) ?_
        obtain ⟨v14, σ13, h12, h⟩ := bd2_o h
        refine back_i (rest := []) hW (run_V S hW (ct_X11_refuseShifted l G A σ8 _ (-5) h12) mi_X11_refuseShifted lk_X11_242 (eC_0 G A σ8) rfl rfl rfl hl (Nat.le_of_ble_eq_true rfl) dX11_best_19 ⟨Nat.le_of_ble_eq_true rfl, Nat.le_of_ble_eq_true rfl⟩ rfl rfl) (fun H locs hW => ?_)
        exact ret_is (wf := wC G A) hret h rfl hW dX11_best_22
def rmX11_bestAt : Room := { frames := 14, cells := 0, slots := 0, locals := 447 }
def f_X11_bestAt (n : Nat) (σ : SC) (a1 : Int32) : Option (Int32 × SC) := bd2 (f_X11_isTooMany n σ) (fun v3 σ2 => if v3 = 0 then bd (f_X4_choose n σ2 (gi σ2 2)) (fun σ5 => bd (f_X4_stepAt σ5 a1) (fun v7 => some (v7, σ5))) else bd2 (f_X11_refuseShifted σ2 (-5)) (fun v10 σ9 => some (v10, σ9)))
theorem mi_X11_bestAt : MI yX11_bestAt cX11_bestAt 2 (some .int) 1 := ⟨im_X11_bestAt, se_X11_bestAt, in_X11, co_X11_bestAt, by decide, by decide, by decide +kernel⟩
set_option maxRecDepth 100000 in
set_option maxHeartbeats 4000000 in
theorem ct_X11_bestAt (l : Launch) (n : Nat) (G : EN) (A : Nat → Nat) (σ : SC) (sz : Nat) (a1 : Int32) {r0 : Int32} {σ0 : SC} (h : f_X11_bestAt n σ a1 = some (r0, σ0)) : CT l yX11_bestAt cX11_bestAt 2 (some .int) rmX11_bestAt G sz [.ref (A 0), .int a1] (wC G A σ) (QI G (va_A (wC G A σ) sz) r0 (wC G A σ0)) := by
  unfold f_X11_bestAt at h
  refine CI.intro (lv := [(0, .ref (A 0)), (1, .int a1)]) (by decide) (Nat.le_of_ble_eq_true rfl) rfl ?_
  intro p e s m args below meth c Q B S hret H locs ls hW hl
  have hx := S.1
  have hb := S.2.1
  refine lv_aload_n hx hb dX11_bestAt_0 rfl (lv_at hl 0 rfl) ?_
  obtain ⟨v3, σ2, h1, h⟩ := bd2_o h
  refine back_i (rest := []) hW (run_V S hW (ct_X11_isTooMany l n G A σ _ h1) mi_X11_isTooMany lk_X11_270 (eC_0 G A σ) rfl rfl rfl hl (Nat.le_of_ble_eq_true rfl) dX11_bestAt_1 ⟨Nat.le_of_ble_eq_true rfl, Nat.le_of_ble_eq_true rfl⟩ rfl rfl) (fun H locs hW => ?_)
  refine bz_eq (tgt := 14) hx hb h dX11_bestAt_4 (by decide) (fun _ h => ?_) (fun _ h => ?_)
  · refine lv_aload_n hx hb dX11_bestAt_14 rfl (lv_at hl 0 rfl) ?_
    refine gC_X11_paths S hW lk_X11_52 dX11_bestAt_15 ?_
    refine lv_aload_n hx hb dX11_bestAt_18 rfl (lv_at hl 0 rfl) ?_
    refine gC_X11_goalSet S hW lk_X11_91 dX11_bestAt_19 ?_
    obtain ⟨σ5, h4, h⟩ := bd_o h
    refine back_v (rest := []) hW (run_V S hW (ct_X4_choose l n G A σ2 _ (gi σ2 2) h4) mi_X4_choose lk_X11_294 (eC_20 G A σ2) rfl rfl rfl hl (Nat.le_of_ble_eq_true rfl) dX11_bestAt_22 ⟨Nat.le_of_ble_eq_true rfl, Nat.le_of_ble_eq_true rfl⟩ rfl rfl) (fun H locs hW => ?_)
    refine lv_aload_n hx hb dX11_bestAt_25 rfl (lv_at hl 0 rfl) ?_
    refine gC_X11_paths S hW lk_X11_52 dX11_bestAt_26 ?_
    refine lv_iload_n hx hb dX11_bestAt_29 rfl (lv_at hl 1 rfl) ?_
    obtain ⟨v7, h6, h⟩ := bd_o h
    refine back_i (rest := []) hW (run_V S hW (ct_X4_stepAt l G A σ5 _ a1 h6) mi_X4_stepAt lk_X11_307 (eC_20 G A σ5) rfl rfl rfl hl (Nat.le_of_ble_eq_true rfl) dX11_bestAt_30 ⟨Nat.le_of_ble_eq_true rfl, Nat.le_of_ble_eq_true rfl⟩ rfl rfl) (fun H locs hW => ?_)
    exact ret_is (wf := wC G A) hret h rfl hW dX11_bestAt_33
  · refine lv_aload_n hx hb dX11_bestAt_7 rfl (lv_at hl 0 rfl) ?_
    refine lv_bipush (v := (-5)) hx hb dX11_bestAt_8 (by decide) ?_
    obtain ⟨v10, σ9, h8, h⟩ := bd2_o h
    refine back_i (rest := []) hW (run_V S hW (ct_X11_refuseShifted l G A σ2 _ (-5) h8) mi_X11_refuseShifted lk_X11_242 (eC_0 G A σ2) rfl rfl rfl hl (Nat.le_of_ble_eq_true rfl) dX11_bestAt_10 ⟨Nat.le_of_ble_eq_true rfl, Nat.le_of_ble_eq_true rfl⟩ rfl rfl) (fun H locs hW => ?_)
    exact ret_is (wf := wC G A) hret h rfl hW dX11_bestAt_13
def rmX11_spell : Room := { frames := 14, cells := 0, slots := 0, locals := 447 }
def LX11_spell_86 (y1 : Int32) (K : SC → Option (Int32 × SC)) : Nat → SC → Int32 → Option (Int32 × SC)
  | 0, _, _ => none
  | k + 1, σ, y3 => if (gi σ 21) ≤ y3 then K σ else ld (fun k => k) 8 y1 (fun j9 => bd (f_X4_stepAt σ y3) (fun v11 => bd (f_X8_keep σ j9 y3 (v11.toInt64)) (fun σ13 => lt (y3 + 1) (fun v14 => LX11_spell_86 y1 K k σ13 v14))))
def f_X11_spell (n : Nat) (σ : SC) (a1 : Int32) : Option (Int32 × SC) := bd (f_X11_refusalOfRow σ a1) (fun v2 => if v2 = 0 then bd2 (f_X11_isTooMany n σ) (fun v5 σ4 => if v5 = 0 then bd (f_X4_choose n σ4 (gi σ4 2)) (fun σ7 => if (gi σ7 20) = 0 then bd2 (f_X11_refuse σ7 (-5)) (fun v21 σ20 => some (v21, σ20)) else ld (fun k => k) 8 a1 (fun j8 => if (gi σ7 21) ≤ (ga σ7 19 j8) then LX11_spell_86 a1 (fun σ15 => some ((gi σ15 21), σ15)) n σ7 0 else bd2 (f_X11_refuse σ7 (-7)) (fun v18 σ17 => some (v18, σ17)))) else bd2 (f_X11_refuse σ4 (-5)) (fun v24 σ23 => some (v24, σ23))) else bd2 (f_X11_refuse σ v2) (fun v27 σ26 => some (v27, σ26)))
theorem mi_X11_spell : MI yX11_spell cX11_spell 4 (some .int) 1 := ⟨im_X11_spell, se_X11_spell, in_X11, co_X11_spell, by decide, by decide, by decide +kernel⟩
set_option maxRecDepth 100000 in
set_option maxHeartbeats 4000000 in
theorem ct_X11_spell (l : Launch) (n : Nat) (G : EN) (A : Nat → Nat) (σ : SC) (sz : Nat) (a1 : Int32) {r0 : Int32} {σ0 : SC} (h : f_X11_spell n σ a1 = some (r0, σ0)) : CT l yX11_spell cX11_spell 4 (some .int) rmX11_spell G sz [.ref (A 0), .int a1] (wC G A σ) (QI G (va_A (wC G A σ) sz) r0 (wC G A σ0)) := by
  unfold f_X11_spell at h
  refine CI.intro (lv := [(0, .ref (A 0)), (1, .int a1)]) (by decide) (Nat.le_of_ble_eq_true rfl) rfl ?_
  intro p e s m args below meth c Q B S hret H locs ls hW hl
  have hx := S.1
  have hb := S.2.1
  refine lv_aload_n hx hb dX11_spell_0 rfl (lv_at hl 0 rfl) ?_
  refine lv_iload_n hx hb dX11_spell_1 rfl (lv_at hl 1 rfl) ?_
  obtain ⟨v2, h1, h⟩ := bd_o h
  refine back_i (rest := []) hW (run_V S hW (ct_X11_refusalOfRow l G A σ _ a1 h1) mi_X11_refusalOfRow lk_X11_116 (eC_0 G A σ) rfl rfl rfl hl (Nat.le_of_ble_eq_true rfl) dX11_spell_2 ⟨Nat.le_of_ble_eq_true rfl, Nat.le_of_ble_eq_true rfl⟩ rfl rfl) (fun H locs hW => ?_)
  refine lv_istore_n (lv' := [(2, .int v2), (0, .ref (A 0)), (1, .int a1)]) hx hb dX11_spell_5 rfl hl (by decide) rfl (fun ls hl => ?_)
  refine lv_iload_n hx hb dX11_spell_6 rfl (lv_at hl 0 rfl) ?_
  refine bz_eq (tgt := 16) hx hb h dX11_spell_7 (by decide) (fun _ h => ?_) (fun _ h => ?_)
  · refine lv_aload_n hx hb dX11_spell_16 rfl (lv_at hl 1 rfl) ?_
    obtain ⟨v5, σ4, h3, h⟩ := bd2_o h
    refine back_i (rest := []) hW (run_V S hW (ct_X11_isTooMany l n G A σ _ h3) mi_X11_isTooMany lk_X11_270 (eC_0 G A σ) rfl rfl rfl hl (Nat.le_of_ble_eq_true rfl) dX11_spell_17 ⟨Nat.le_of_ble_eq_true rfl, Nat.le_of_ble_eq_true rfl⟩ rfl rfl) (fun H locs hW => ?_)
    refine bz_eq (tgt := 30) hx hb h dX11_spell_20 (by decide) (fun _ h => ?_) (fun _ h => ?_)
    · refine lv_aload_n hx hb dX11_spell_30 rfl (lv_at hl 1 rfl) ?_
      refine gC_X11_paths S hW lk_X11_52 dX11_spell_31 ?_
      refine lv_aload_n hx hb dX11_spell_34 rfl (lv_at hl 1 rfl) ?_
      refine gC_X11_goalSet S hW lk_X11_91 dX11_spell_35 ?_
      obtain ⟨σ7, h6, h⟩ := bd_o h
      refine back_v (rest := []) hW (run_V S hW (ct_X4_choose l n G A σ4 _ (gi σ4 2) h6) mi_X4_choose lk_X11_294 (eC_20 G A σ4) rfl rfl rfl hl (Nat.le_of_ble_eq_true rfl) dX11_spell_38 ⟨Nat.le_of_ble_eq_true rfl, Nat.le_of_ble_eq_true rfl⟩ rfl rfl) (fun H locs hW => ?_)
      refine lv_aload_n hx hb dX11_spell_41 rfl (lv_at hl 1 rfl) ?_
      refine gC_X11_paths S hW lk_X11_52 dX11_spell_42 ?_
      refine gC_X4_found S hW lk_X11_297 dX11_spell_45 ?_
      refine bz_ne (tgt := 58) hx hb h dX11_spell_48 (by decide) (fun _ h => ?_) (fun _ h => ?_)
      · refine lv_aload_n hx hb dX11_spell_51 rfl (lv_at hl 1 rfl) ?_
        refine lv_bipush (v := (-5)) hx hb dX11_spell_52 (by decide) ?_
        obtain ⟨v21, σ20, h19, h⟩ := bd2_o h
        refine back_i (rest := []) hW (run_V S hW (ct_X11_refuse l G A σ7 _ (-5) h19) mi_X11_refuse lk_X11_108 (eC_0 G A σ7) rfl rfl rfl hl (Nat.le_of_ble_eq_true rfl) dX11_spell_54 ⟨Nat.le_of_ble_eq_true rfl, Nat.le_of_ble_eq_true rfl⟩ rfl rfl) (fun H locs hW => ?_)
        exact ret_is (wf := wC G A) hret h rfl hW dX11_spell_57
      · refine lv_aload_n hx hb dX11_spell_58 rfl (lv_at hl 1 rfl) ?_
        refine gC_X11_paths S hW lk_X11_52 dX11_spell_59 ?_
        refine gC_X4_planLength S hW lk_X11_304 dX11_spell_62 ?_
        refine lv_aload_n hx hb dX11_spell_65 rfl (lv_at hl 1 rfl) ?_
        refine gC_X11_shelves S hW lk_X11_18 dX11_spell_66 ?_
        refine lv_iload_n hx hb dX11_spell_69 rfl (lv_at hl 2 rfl) ?_
        refine aC_shelf S hW h dX11_spell_70 (fun j8 hj8 h => ?_)
        refine gC_X8_size hj8 S hW lk_X11_310 dX11_spell_71 ?_
        refine bc_le (tgt := 84) hx hb h dX11_spell_74 (by decide) (fun _ h => ?_) (fun _ h => ?_)
        · refine lv_iconst (v := 0) hx hb dX11_spell_84 (by decide) ?_
          refine lv_istore_n (lv' := [(3, .int 0), (2, .int v2), (0, .ref (A 0)), (1, .int a1)]) hx hb dX11_spell_85 rfl hl (by decide) rfl (fun ls hl => ?_)
          have hL86 : ∀ (y1 : Int32) (K : SC → Option (Int32 × SC)), (∀ (σ : SC) (H : Heap) (locs : List Loc) (ls : Array Slot), WS G B s (wC G A σ) H locs → lv_has ls 4 [(0, .ref (A 0))] → K σ = some (r0, σ0) → W p l e rmX11_spell s m args below meth c H locs 0 0 Q (F0 m 122 ls [])) → ∀ (k : Nat) (σ : SC) (y3 : Int32)  (H : Heap) (locs : List Loc) (ls : Array Slot), WS G B s (wC G A σ) H locs → lv_has ls 4 [(0, .ref (A 0)), (1, .int y1), (3, .int y3)] → LX11_spell_86 y1 K k σ y3 = some (r0, σ0) → W p l e rmX11_spell s m args below meth c H locs 0 0 Q (F0 m 86 ls []) := by
            intro y1 K hK k
            induction k with
            | zero => intro σ y3 H locs ls hW hl h; rw [LX11_spell_86] at h; cases h
            | succ k ih =>
              intro σ y3 H locs ls hW hl h
              rw [LX11_spell_86] at h
              refine lv_iload_n hx hb dX11_spell_86 rfl (lv_at hl 2 rfl) ?_
              refine lv_aload_n hx hb dX11_spell_87 rfl (lv_at hl 0 rfl) ?_
              refine gC_X11_paths S hW lk_X11_52 dX11_spell_88 ?_
              refine gC_X4_planLength S hW lk_X11_304 dX11_spell_91 ?_
              refine bc_ge (tgt := 122) hx hb h dX11_spell_94 (by decide) (fun _ h => ?_) (fun _ h => ?_)
              · exact hK σ _ _ _ hW (lv_sub hl [0] rfl) h
              · refine lv_aload_n hx hb dX11_spell_97 rfl (lv_at hl 0 rfl) ?_
                refine gC_X11_shelves S hW lk_X11_18 dX11_spell_98 ?_
                refine lv_iload_n hx hb dX11_spell_101 rfl (lv_at hl 1 rfl) ?_
                refine aC_shelf S hW h dX11_spell_102 (fun j9 hj9 h => ?_)
                refine lv_iload_n hx hb dX11_spell_103 rfl (lv_at hl 2 rfl) ?_
                refine lv_aload_n hx hb dX11_spell_104 rfl (lv_at hl 0 rfl) ?_
                refine gC_X11_paths S hW lk_X11_52 dX11_spell_105 ?_
                refine lv_iload_n hx hb dX11_spell_108 rfl (lv_at hl 2 rfl) ?_
                obtain ⟨v11, h10, h⟩ := bd_o h
                refine back_i (rest := [.int y3, .ref (A (31 + 2 * j9))]) hW (run_V S hW (ct_X4_stepAt l G A σ _ y3 h10) mi_X4_stepAt lk_X11_307 (eC_20 G A σ) rfl rfl rfl hl (Nat.le_of_ble_eq_true rfl) dX11_spell_109 ⟨Nat.le_of_ble_eq_true rfl, Nat.le_of_ble_eq_true rfl⟩ rfl rfl) (fun H locs hW => ?_)
                refine lv_i2l hx hb dX11_spell_112 rfl ?_
                obtain ⟨σ13, h12, h⟩ := bd_o h
                refine back_v (rest := []) hW (run_V S hW (ct_X8_keep l G A σ _ j9 y3 (v11.toInt64) hj9 h12) mi_X8_keep lk_X11_122 (eC_sh G A σ hj9) rfl rfl rfl hl (Nat.le_of_ble_eq_true rfl) dX11_spell_113 ⟨Nat.le_of_ble_eq_true rfl, Nat.le_of_ble_eq_true rfl⟩ rfl rfl) (fun H locs hW => ?_)
                refine w_iinc (lv' := [(0, .ref (A 0)), (1, .int y1)]) hx hb dX11_spell_116 hl (k := 2) rfl (by decide) (by decide) rfl h (fun v14 ls hl h => ?_)
                refine lv_goto (tgt := 86) hx hb dX11_spell_119 (by decide) ?_
                exact ih σ13 v14 _ _ _ hW (lv_sub hl [1, 2, 0] rfl) h
          refine hL86 a1 _ (fun σ15 H locs ls hW hl h => ?_) n σ7 0 _ _ _ hW (lv_sub hl [2, 3, 0] rfl) h
          refine lv_aload_n hx hb dX11_spell_122 rfl (lv_at hl 0 rfl) ?_
          refine gC_X11_paths S hW lk_X11_52 dX11_spell_123 ?_
          refine gC_X4_planLength S hW lk_X11_304 dX11_spell_126 ?_
          exact ret_is (wf := wC G A) hret h rfl hW dX11_spell_129
        · refine lv_aload_n hx hb dX11_spell_77 rfl (lv_at hl 1 rfl) ?_
          refine lv_bipush (v := (-7)) hx hb dX11_spell_78 (by decide) ?_
          obtain ⟨v18, σ17, h16, h⟩ := bd2_o h
          refine back_i (rest := []) hW (run_V S hW (ct_X11_refuse l G A σ7 _ (-7) h16) mi_X11_refuse lk_X11_108 (eC_0 G A σ7) rfl rfl rfl hl (Nat.le_of_ble_eq_true rfl) dX11_spell_80 ⟨Nat.le_of_ble_eq_true rfl, Nat.le_of_ble_eq_true rfl⟩ rfl rfl) (fun H locs hW => ?_)
          exact ret_is (wf := wC G A) hret h rfl hW dX11_spell_83
    · refine lv_aload_n hx hb dX11_spell_23 rfl (lv_at hl 1 rfl) ?_
      refine lv_bipush (v := (-5)) hx hb dX11_spell_24 (by decide) ?_
      obtain ⟨v24, σ23, h22, h⟩ := bd2_o h
      refine back_i (rest := []) hW (run_V S hW (ct_X11_refuse l G A σ4 _ (-5) h22) mi_X11_refuse lk_X11_108 (eC_0 G A σ4) rfl rfl rfl hl (Nat.le_of_ble_eq_true rfl) dX11_spell_26 ⟨Nat.le_of_ble_eq_true rfl, Nat.le_of_ble_eq_true rfl⟩ rfl rfl) (fun H locs hW => ?_)
      exact ret_is (wf := wC G A) hret h rfl hW dX11_spell_29
  · refine lv_aload_n hx hb dX11_spell_10 rfl (lv_at hl 1 rfl) ?_
    refine lv_iload_n hx hb dX11_spell_11 rfl (lv_at hl 0 rfl) ?_
    obtain ⟨v27, σ26, h25, h⟩ := bd2_o h
    refine back_i (rest := []) hW (run_V S hW (ct_X11_refuse l G A σ _ v2 h25) mi_X11_refuse lk_X11_108 (eC_0 G A σ) rfl rfl rfl hl (Nat.le_of_ble_eq_true rfl) dX11_spell_12 ⟨Nat.le_of_ble_eq_true rfl, Nat.le_of_ble_eq_true rfl⟩ rfl rfl) (fun H locs hW => ?_)
    exact ret_is (wf := wC G A) hret h rfl hW dX11_spell_15
def rmX11_refusalOfTold : Room := { frames := 2, cells := 0, slots := 0, locals := 41 }
def f_X11_refusalOfTold (σ : SC) (a1 : Int32) (a2 : Int32) : Option Int32 := bd (f_X11_refusalOfRow σ a1) (fun v2 => if v2 = 0 then if 0 ≤ a2 then ld (fun k => k) 8 a1 (fun j3 => if a2 ≤ (ga σ 19 j3) then some 0 else some (-5)) else some (-4) else some v2)
theorem mi_X11_refusalOfTold : MI yX11_refusalOfTold cX11_refusalOfTold 4 (some .int) 2 := ⟨im_X11_refusalOfTold, se_X11_refusalOfTold, in_X11, co_X11_refusalOfTold, by decide, by decide, by decide +kernel⟩
set_option maxRecDepth 100000 in
set_option maxHeartbeats 4000000 in
theorem ct_X11_refusalOfTold (l : Launch) (G : EN) (A : Nat → Nat) (σ : SC) (sz : Nat) (a1 : Int32) (a2 : Int32) {r0 : Int32} (h : f_X11_refusalOfTold σ a1 a2 = some r0) : CT l yX11_refusalOfTold cX11_refusalOfTold 4 (some .int) rmX11_refusalOfTold G sz [.ref (A 0), .int a1, .int a2] (wC G A σ) (QI G (va_A (wC G A σ) sz) r0 (wC G A σ)) := by
  unfold f_X11_refusalOfTold at h
  refine CI.intro (lv := [(0, .ref (A 0)), (1, .int a1), (2, .int a2)]) (by decide) (Nat.le_of_ble_eq_true rfl) rfl ?_
  intro p e s m args below meth c Q B S hret H locs ls hW hl
  have hx := S.1
  have hb := S.2.1
  refine lv_aload_n hx hb dX11_refusalOfTold_0 rfl (lv_at hl 0 rfl) ?_
  refine lv_iload_n hx hb dX11_refusalOfTold_1 rfl (lv_at hl 1 rfl) ?_
  obtain ⟨v2, h1, h⟩ := bd_o h
  refine back_i (rest := []) hW (run_V S hW (ct_X11_refusalOfRow l G A σ _ a1 h1) mi_X11_refusalOfRow lk_X11_116 (eC_0 G A σ) rfl rfl rfl hl (Nat.le_of_ble_eq_true rfl) dX11_refusalOfTold_2 ⟨Nat.le_of_ble_eq_true rfl, Nat.le_of_ble_eq_true rfl⟩ rfl rfl) (fun H locs hW => ?_)
  refine lv_istore_n (lv' := [(3, .int v2), (0, .ref (A 0)), (1, .int a1), (2, .int a2)]) hx hb dX11_refusalOfTold_5 rfl hl (by decide) rfl (fun ls hl => ?_)
  refine lv_iload_n hx hb dX11_refusalOfTold_6 rfl (lv_at hl 0 rfl) ?_
  refine bz_eq (tgt := 12) hx hb h dX11_refusalOfTold_7 (by decide) (fun _ h => ?_) (fun _ h => ?_)
  · refine lv_iload_n hx hb dX11_refusalOfTold_12 rfl (lv_at hl 3 rfl) ?_
    refine bz_ge (tgt := 19) hx hb h dX11_refusalOfTold_13 (by decide) (fun _ h => ?_) (fun _ h => ?_)
    · refine lv_iload_n hx hb dX11_refusalOfTold_19 rfl (lv_at hl 3 rfl) ?_
      refine lv_aload_n hx hb dX11_refusalOfTold_20 rfl (lv_at hl 1 rfl) ?_
      refine gC_X11_shelves S hW lk_X11_18 dX11_refusalOfTold_21 ?_
      refine lv_iload_n hx hb dX11_refusalOfTold_24 rfl (lv_at hl 2 rfl) ?_
      refine aC_shelf S hW h dX11_refusalOfTold_25 (fun j3 hj3 h => ?_)
      refine gC_X8_size hj3 S hW lk_X11_310 dX11_refusalOfTold_26 ?_
      refine bc_le (tgt := 37) hx hb h dX11_refusalOfTold_29 (by decide) (fun _ h => ?_) (fun _ h => ?_)
      · refine lv_iconst (v := 0) hx hb dX11_refusalOfTold_37 (by decide) ?_
        exact hret H locs _ ls _ (Option.some.inj h) rfl hW dX11_refusalOfTold_38
      · refine lv_bipush (v := (-5)) hx hb dX11_refusalOfTold_32 (by decide) ?_
        refine lv_goto (tgt := 38) hx hb dX11_refusalOfTold_34 (by decide) ?_
        exact hret H locs _ ls _ (Option.some.inj h) rfl hW dX11_refusalOfTold_38
    · refine lv_bipush (v := (-4)) hx hb dX11_refusalOfTold_16 (by decide) ?_
      exact hret H locs _ ls _ (Option.some.inj h) rfl hW dX11_refusalOfTold_18
  · refine lv_iload_n hx hb dX11_refusalOfTold_10 rfl (lv_at hl 0 rfl) ?_
    exact hret H locs _ ls _ (Option.some.inj h) rfl hW dX11_refusalOfTold_11
def rmX11_judge : Room := { frames := 5, cells := 0, slots := 0, locals := 108 }
def f_X11_judge (n : Nat) (σ : SC) (a1 : Int32) (a2 : Int32) : Option (Int32 × SC) := bd (f_X11_refusalOfTold σ a1 a2) (fun v2 => if v2 = 0 then if a2 ≤ 100 then ld (fun k => k) 8 a1 (fun j3 => bd (f_X10_follow n σ j3 a2 (gi σ 1)) (fun σ5 => some ((gi σ5 30), σ5))) else bd2 (f_X11_refuseShifted σ (-6)) (fun v8 σ7 => some (v8, σ7)) else bd2 (f_X11_refuseShifted σ v2) (fun v11 σ10 => some (v11, σ10)))
theorem mi_X11_judge : MI yX11_judge cX11_judge 4 (some .int) 2 := ⟨im_X11_judge, se_X11_judge, in_X11, co_X11_judge, by decide, by decide, by decide +kernel⟩
set_option maxRecDepth 100000 in
set_option maxHeartbeats 4000000 in
theorem ct_X11_judge (l : Launch) (n : Nat) (G : EN) (A : Nat → Nat) (σ : SC) (sz : Nat) (a1 : Int32) (a2 : Int32) {r0 : Int32} {σ0 : SC} (h : f_X11_judge n σ a1 a2 = some (r0, σ0)) : CT l yX11_judge cX11_judge 4 (some .int) rmX11_judge G sz [.ref (A 0), .int a1, .int a2] (wC G A σ) (QI G (va_A (wC G A σ) sz) r0 (wC G A σ0)) := by
  unfold f_X11_judge at h
  refine CI.intro (lv := [(0, .ref (A 0)), (1, .int a1), (2, .int a2)]) (by decide) (Nat.le_of_ble_eq_true rfl) rfl ?_
  intro p e s m args below meth c Q B S hret H locs ls hW hl
  have hx := S.1
  have hb := S.2.1
  refine lv_aload_n hx hb dX11_judge_0 rfl (lv_at hl 0 rfl) ?_
  refine lv_iload_n hx hb dX11_judge_1 rfl (lv_at hl 1 rfl) ?_
  refine lv_iload_n hx hb dX11_judge_2 rfl (lv_at hl 2 rfl) ?_
  obtain ⟨v2, h1, h⟩ := bd_o h
  refine back_i (rest := []) hW (run_V S hW (ct_X11_refusalOfTold l G A σ _ a1 a2 h1) mi_X11_refusalOfTold lk_X11_313 (eC_0 G A σ) rfl rfl rfl hl (Nat.le_of_ble_eq_true rfl) dX11_judge_3 ⟨Nat.le_of_ble_eq_true rfl, Nat.le_of_ble_eq_true rfl⟩ rfl rfl) (fun H locs hW => ?_)
  refine lv_istore_n (lv' := [(3, .int v2), (0, .ref (A 0)), (1, .int a1), (2, .int a2)]) hx hb dX11_judge_6 rfl hl (by decide) rfl (fun ls hl => ?_)
  refine lv_iload_n hx hb dX11_judge_7 rfl (lv_at hl 0 rfl) ?_
  refine bz_eq (tgt := 17) hx hb h dX11_judge_8 (by decide) (fun _ h => ?_) (fun _ h => ?_)
  · refine lv_iload_n hx hb dX11_judge_17 rfl (lv_at hl 3 rfl) ?_
    refine lv_bipush (v := 100) hx hb dX11_judge_18 (by decide) ?_
    refine bc_le (tgt := 30) hx hb h dX11_judge_20 (by decide) (fun _ h => ?_) (fun _ h => ?_)
    · refine lv_aload_n hx hb dX11_judge_30 rfl (lv_at hl 1 rfl) ?_
      refine gC_X11_told S hW lk_X11_66 dX11_judge_31 ?_
      refine lv_aload_n hx hb dX11_judge_34 rfl (lv_at hl 1 rfl) ?_
      refine gC_X11_shelves S hW lk_X11_18 dX11_judge_35 ?_
      refine lv_iload_n hx hb dX11_judge_38 rfl (lv_at hl 2 rfl) ?_
      refine aC_shelf S hW h dX11_judge_39 (fun j3 hj3 h => ?_)
      refine lv_iload_n hx hb dX11_judge_40 rfl (lv_at hl 3 rfl) ?_
      refine lv_aload_n hx hb dX11_judge_41 rfl (lv_at hl 1 rfl) ?_
      refine gC_X11_startSet S hW lk_X11_88 dX11_judge_42 ?_
      obtain ⟨σ5, h4, h⟩ := bd_o h
      refine back_v (rest := []) hW (run_V S hW (ct_X10_follow l n G A σ _ j3 a2 (gi σ 1) hj3 h4) mi_X10_follow lk_X11_316 (eC_26 G A σ) rfl rfl rfl hl (Nat.le_of_ble_eq_true rfl) dX11_judge_45 ⟨Nat.le_of_ble_eq_true rfl, Nat.le_of_ble_eq_true rfl⟩ rfl rfl) (fun H locs hW => ?_)
      refine lv_aload_n hx hb dX11_judge_48 rfl (lv_at hl 1 rfl) ?_
      refine gC_X11_told S hW lk_X11_66 dX11_judge_49 ?_
      refine gC_X10_wrongAt S hW lk_X11_320 dX11_judge_52 ?_
      exact ret_is (wf := wC G A) hret h rfl hW dX11_judge_55
    · refine lv_aload_n hx hb dX11_judge_23 rfl (lv_at hl 1 rfl) ?_
      refine lv_bipush (v := (-6)) hx hb dX11_judge_24 (by decide) ?_
      obtain ⟨v8, σ7, h6, h⟩ := bd2_o h
      refine back_i (rest := []) hW (run_V S hW (ct_X11_refuseShifted l G A σ _ (-6) h6) mi_X11_refuseShifted lk_X11_242 (eC_0 G A σ) rfl rfl rfl hl (Nat.le_of_ble_eq_true rfl) dX11_judge_26 ⟨Nat.le_of_ble_eq_true rfl, Nat.le_of_ble_eq_true rfl⟩ rfl rfl) (fun H locs hW => ?_)
      exact ret_is (wf := wC G A) hret h rfl hW dX11_judge_29
  · refine lv_aload_n hx hb dX11_judge_11 rfl (lv_at hl 1 rfl) ?_
    refine lv_iload_n hx hb dX11_judge_12 rfl (lv_at hl 0 rfl) ?_
    obtain ⟨v11, σ10, h9, h⟩ := bd2_o h
    refine back_i (rest := []) hW (run_V S hW (ct_X11_refuseShifted l G A σ _ v2 h9) mi_X11_refuseShifted lk_X11_242 (eC_0 G A σ) rfl rfl rfl hl (Nat.le_of_ble_eq_true rfl) dX11_judge_13 ⟨Nat.le_of_ble_eq_true rfl, Nat.le_of_ble_eq_true rfl⟩ rfl rfl) (fun H locs hW => ?_)
    exact ret_is (wf := wC G A) hret h rfl hW dX11_judge_16
def rmX11_behind : Room := { frames := 5, cells := 0, slots := 0, locals := 108 }
def f_X11_behind (n : Nat) (σ : SC) (a1 : Int32) (a2 : Int32) (a3 : Int32) : Option (Int32 × SC) := bd (f_X11_refusalOfTold σ a1 a2) (fun v2 => if v2 = 0 then if a3 < 0 then bd2 (f_X11_refuse σ (-5)) (fun v5 σ4 => some (v5, σ4)) else if a3 ≤ 3 then if a2 ≤ 100 then ld (fun k => k) 8 a1 (fun j6 => bd (f_X10_follow n σ j6 a2 (gi σ 1)) (fun σ8 => if (gi σ8 30) = (-1) then lt ((gi σ8 2) &&& ((gi σ8 31) ^^^ (-1))) (fun v9 => if a3 = 0 then some ((gi σ8 31), σ8) else if a3 = 1 then some ((gi σ8 32), σ8) else if a3 = 2 then if v9 = 0 then some (1, σ8) else some (0, σ8) else some (v9, σ8)) else bd2 (f_X11_refuse σ8 (-6)) (fun v12 σ11 => some (v12, σ11)))) else bd2 (f_X11_refuse σ (-6)) (fun v15 σ14 => some (v15, σ14)) else bd2 (f_X11_refuse σ (-5)) (fun v18 σ17 => some (v18, σ17)) else bd2 (f_X11_refuse σ v2) (fun v21 σ20 => some (v21, σ20)))
theorem mi_X11_behind : MI yX11_behind cX11_behind 6 (some .int) 3 := ⟨im_X11_behind, se_X11_behind, in_X11, co_X11_behind, by decide, by decide, by decide +kernel⟩
set_option maxRecDepth 100000 in
set_option maxHeartbeats 4000000 in
theorem ct_X11_behind (l : Launch) (n : Nat) (G : EN) (A : Nat → Nat) (σ : SC) (sz : Nat) (a1 : Int32) (a2 : Int32) (a3 : Int32) {r0 : Int32} {σ0 : SC} (h : f_X11_behind n σ a1 a2 a3 = some (r0, σ0)) : CT l yX11_behind cX11_behind 6 (some .int) rmX11_behind G sz [.ref (A 0), .int a1, .int a2, .int a3] (wC G A σ) (QI G (va_A (wC G A σ) sz) r0 (wC G A σ0)) := by
  unfold f_X11_behind at h
  refine CI.intro (lv := [(0, .ref (A 0)), (1, .int a1), (2, .int a2), (3, .int a3)]) (by decide) (Nat.le_of_ble_eq_true rfl) rfl ?_
  intro p e s m args below meth c Q B S hret H locs ls hW hl
  have hx := S.1
  have hb := S.2.1
  refine lv_aload_n hx hb dX11_behind_0 rfl (lv_at hl 0 rfl) ?_
  refine lv_iload_n hx hb dX11_behind_1 rfl (lv_at hl 1 rfl) ?_
  refine lv_iload_n hx hb dX11_behind_2 rfl (lv_at hl 2 rfl) ?_
  obtain ⟨v2, h1, h⟩ := bd_o h
  refine back_i (rest := []) hW (run_V S hW (ct_X11_refusalOfTold l G A σ _ a1 a2 h1) mi_X11_refusalOfTold lk_X11_313 (eC_0 G A σ) rfl rfl rfl hl (Nat.le_of_ble_eq_true rfl) dX11_behind_3 ⟨Nat.le_of_ble_eq_true rfl, Nat.le_of_ble_eq_true rfl⟩ rfl rfl) (fun H locs hW => ?_)
  refine lv_istore (lv' := [(4, .int v2), (0, .ref (A 0)), (1, .int a1), (2, .int a2), (3, .int a3)]) hx hb dX11_behind_6 hl (by decide) rfl (fun ls hl => ?_)
  refine lv_iload hx hb dX11_behind_8 (lv_at hl 0 rfl) ?_
  refine bz_eq (tgt := 20) hx hb h dX11_behind_10 (by decide) (fun _ h => ?_) (fun _ h => ?_)
  · refine lv_iload_n hx hb dX11_behind_20 rfl (lv_at hl 4 rfl) ?_
    refine bz_lt (tgt := 29) hx hb h dX11_behind_21 (by decide) (fun _ h => ?_) (fun _ h => ?_)
    · refine lv_aload_n hx hb dX11_behind_29 rfl (lv_at hl 1 rfl) ?_
      refine lv_bipush (v := (-5)) hx hb dX11_behind_30 (by decide) ?_
      obtain ⟨v5, σ4, h3, h⟩ := bd2_o h
      refine back_i (rest := []) hW (run_V S hW (ct_X11_refuse l G A σ _ (-5) h3) mi_X11_refuse lk_X11_108 (eC_0 G A σ) rfl rfl rfl hl (Nat.le_of_ble_eq_true rfl) dX11_behind_32 ⟨Nat.le_of_ble_eq_true rfl, Nat.le_of_ble_eq_true rfl⟩ rfl rfl) (fun H locs hW => ?_)
      exact ret_is (wf := wC G A) hret h rfl hW dX11_behind_35
    · refine lv_iload_n hx hb dX11_behind_24 rfl (lv_at hl 4 rfl) ?_
      refine lv_iconst (v := 3) hx hb dX11_behind_25 (by decide) ?_
      refine bc_le (tgt := 36) hx hb h dX11_behind_26 (by decide) (fun _ h => ?_) (fun _ h => ?_)
      · refine lv_iload_n hx hb dX11_behind_36 rfl (lv_at hl 3 rfl) ?_
        refine lv_bipush (v := 100) hx hb dX11_behind_37 (by decide) ?_
        refine bc_le (tgt := 49) hx hb h dX11_behind_39 (by decide) (fun _ h => ?_) (fun _ h => ?_)
        · refine lv_aload_n hx hb dX11_behind_49 rfl (lv_at hl 1 rfl) ?_
          refine gC_X11_told S hW lk_X11_66 dX11_behind_50 ?_
          refine lv_aload_n hx hb dX11_behind_53 rfl (lv_at hl 1 rfl) ?_
          refine gC_X11_shelves S hW lk_X11_18 dX11_behind_54 ?_
          refine lv_iload_n hx hb dX11_behind_57 rfl (lv_at hl 2 rfl) ?_
          refine aC_shelf S hW h dX11_behind_58 (fun j6 hj6 h => ?_)
          refine lv_iload_n hx hb dX11_behind_59 rfl (lv_at hl 3 rfl) ?_
          refine lv_aload_n hx hb dX11_behind_60 rfl (lv_at hl 1 rfl) ?_
          refine gC_X11_startSet S hW lk_X11_88 dX11_behind_61 ?_
          obtain ⟨σ8, h7, h⟩ := bd_o h
          refine back_v (rest := []) hW (run_V S hW (ct_X10_follow l n G A σ _ j6 a2 (gi σ 1) hj6 h7) mi_X10_follow lk_X11_316 (eC_26 G A σ) rfl rfl rfl hl (Nat.le_of_ble_eq_true rfl) dX11_behind_64 ⟨Nat.le_of_ble_eq_true rfl, Nat.le_of_ble_eq_true rfl⟩ rfl rfl) (fun H locs hW => ?_)
          refine lv_aload_n hx hb dX11_behind_67 rfl (lv_at hl 1 rfl) ?_
          refine gC_X11_told S hW lk_X11_66 dX11_behind_68 ?_
          refine gC_X10_wrongAt S hW lk_X11_320 dX11_behind_71 ?_
          refine lv_iconst (v := (-1)) hx hb dX11_behind_74 (by decide) ?_
          refine bc_eq (tgt := 85) hx hb h dX11_behind_75 (by decide) (fun _ h => ?_) (fun _ h => ?_)
          · refine lv_aload_n hx hb dX11_behind_85 rfl (lv_at hl 1 rfl) ?_
            refine gC_X11_goalSet S hW lk_X11_91 dX11_behind_86 ?_
            refine lv_aload_n hx hb dX11_behind_89 rfl (lv_at hl 1 rfl) ?_
            refine gC_X11_told S hW lk_X11_66 dX11_behind_90 ?_
            refine gC_X10_endState S hW lk_X11_323 dX11_behind_93 ?_
            refine lv_iconst (v := (-1)) hx hb dX11_behind_96 (by decide) ?_
            refine lv_ixor hx hb dX11_behind_97 ?_
            refine lv_iand hx hb dX11_behind_98 ?_
            refine nm_i h (fun v9 h => ?_)
            refine lv_istore (lv' := [(5, .int v9), (4, .int v2), (0, .ref (A 0)), (1, .int a1), (2, .int a2), (3, .int a3)]) hx hb dX11_behind_99 hl (by decide) rfl (fun ls hl => ?_)
            refine lv_iload_n hx hb dX11_behind_101 rfl (lv_at hl 5 rfl) ?_
            refine b_if h (fun hs102_0 h => ?_) (fun hs102_0 h => ?_)
            · refine lv_tableIn (tgt := 128) (off := 26) hx hb dX11_behind_102 (by rw [hs102_0]; decide) (by rw [hs102_0]; decide) (by rw [hs102_0]; rfl) (by decide) ?_
              refine lv_aload_n hx hb dX11_behind_128 rfl (lv_at hl 2 rfl) ?_
              refine gC_X11_told S hW lk_X11_66 dX11_behind_129 ?_
              refine gC_X10_endState S hW lk_X11_323 dX11_behind_132 ?_
              exact ret_is (wf := wC G A) hret h rfl hW dX11_behind_135
            refine b_if h (fun hs102_1 h => ?_) (fun hs102_1 h => ?_)
            · refine lv_tableIn (tgt := 136) (off := 34) hx hb dX11_behind_102 (by rw [hs102_1]; decide) (by rw [hs102_1]; decide) (by rw [hs102_1]; rfl) (by decide) ?_
              refine lv_aload_n hx hb dX11_behind_136 rfl (lv_at hl 2 rfl) ?_
              refine gC_X11_told S hW lk_X11_66 dX11_behind_137 ?_
              refine gC_X10_costSum S hW lk_X11_326 dX11_behind_140 ?_
              exact ret_is (wf := wC G A) hret h rfl hW dX11_behind_143
            refine b_if h (fun hs102_2 h => ?_) (fun hs102_2 h => ?_)
            · refine lv_tableIn (tgt := 144) (off := 42) hx hb dX11_behind_102 (by rw [hs102_2]; decide) (by rw [hs102_2]; decide) (by rw [hs102_2]; rfl) (by decide) ?_
              refine lv_iload hx hb dX11_behind_144 (lv_at hl 0 rfl) ?_
              refine bz_ne (tgt := 153) hx hb h dX11_behind_146 (by decide) (fun _ h => ?_) (fun _ h => ?_)
              · refine lv_iconst (v := 1) hx hb dX11_behind_149 (by decide) ?_
                refine lv_goto (tgt := 154) hx hb dX11_behind_150 (by decide) ?_
                exact ret_is (wf := wC G A) hret h rfl hW dX11_behind_154
              · refine lv_iconst (v := 0) hx hb dX11_behind_153 (by decide) ?_
                exact ret_is (wf := wC G A) hret h rfl hW dX11_behind_154
            refine lv_tableOut (tgt := 155) hx hb dX11_behind_102 (sw_out 0 2 _ (fun k h1 h2 => by have := lv_neT hs102_0 (a := 0) (by decide) ; have := lv_neT hs102_1 (a := 1) (by decide) ; have := lv_neT hs102_2 (a := 2) (by decide); omega)) (by decide) ?_
            refine lv_iload hx hb dX11_behind_155 (lv_at hl 0 rfl) ?_
            exact ret_is (wf := wC G A) hret h rfl hW dX11_behind_157
          · refine lv_aload_n hx hb dX11_behind_78 rfl (lv_at hl 1 rfl) ?_
            refine lv_bipush (v := (-6)) hx hb dX11_behind_79 (by decide) ?_
            obtain ⟨v12, σ11, h10, h⟩ := bd2_o h
            refine back_i (rest := []) hW (run_V S hW (ct_X11_refuse l G A σ8 _ (-6) h10) mi_X11_refuse lk_X11_108 (eC_0 G A σ8) rfl rfl rfl hl (Nat.le_of_ble_eq_true rfl) dX11_behind_81 ⟨Nat.le_of_ble_eq_true rfl, Nat.le_of_ble_eq_true rfl⟩ rfl rfl) (fun H locs hW => ?_)
            exact ret_is (wf := wC G A) hret h rfl hW dX11_behind_84
        · refine lv_aload_n hx hb dX11_behind_42 rfl (lv_at hl 1 rfl) ?_
          refine lv_bipush (v := (-6)) hx hb dX11_behind_43 (by decide) ?_
          obtain ⟨v15, σ14, h13, h⟩ := bd2_o h
          refine back_i (rest := []) hW (run_V S hW (ct_X11_refuse l G A σ _ (-6) h13) mi_X11_refuse lk_X11_108 (eC_0 G A σ) rfl rfl rfl hl (Nat.le_of_ble_eq_true rfl) dX11_behind_45 ⟨Nat.le_of_ble_eq_true rfl, Nat.le_of_ble_eq_true rfl⟩ rfl rfl) (fun H locs hW => ?_)
          exact ret_is (wf := wC G A) hret h rfl hW dX11_behind_48
      · refine lv_aload_n hx hb dX11_behind_29 rfl (lv_at hl 1 rfl) ?_
        refine lv_bipush (v := (-5)) hx hb dX11_behind_30 (by decide) ?_
        obtain ⟨v18, σ17, h16, h⟩ := bd2_o h
        refine back_i (rest := []) hW (run_V S hW (ct_X11_refuse l G A σ _ (-5) h16) mi_X11_refuse lk_X11_108 (eC_0 G A σ) rfl rfl rfl hl (Nat.le_of_ble_eq_true rfl) dX11_behind_32 ⟨Nat.le_of_ble_eq_true rfl, Nat.le_of_ble_eq_true rfl⟩ rfl rfl) (fun H locs hW => ?_)
        exact ret_is (wf := wC G A) hret h rfl hW dX11_behind_35
  · refine lv_aload_n hx hb dX11_behind_13 rfl (lv_at hl 1 rfl) ?_
    refine lv_iload hx hb dX11_behind_14 (lv_at hl 0 rfl) ?_
    obtain ⟨v21, σ20, h19, h⟩ := bd2_o h
    refine back_i (rest := []) hW (run_V S hW (ct_X11_refuse l G A σ _ v2 h19) mi_X11_refuse lk_X11_108 (eC_0 G A σ) rfl rfl rfl hl (Nat.le_of_ble_eq_true rfl) dX11_behind_16 ⟨Nat.le_of_ble_eq_true rfl, Nat.le_of_ble_eq_true rfl⟩ rfl rfl) (fun H locs hW => ?_)
    exact ret_is (wf := wC G A) hret h rfl hW dX11_behind_19
def rmX11_mostPair : Room := { frames := 13, cells := 0, slots := 0, locals := 424 }
def f_X11_mostPair (n : Nat) (σ : SC) (a1 : Int32) (a2 : Int32) : Option (Int32 × SC) := bd (f_X11_refusalOfTold σ a1 a2) (fun v2 => if v2 = 0 then if 2 ≤ a2 then if 100 < a2 then bd2 (f_X11_refuse σ (-6)) (fun v5 σ4 => some (v5, σ4)) else ld (fun k => k) 8 a1 (fun j6 => bd (f_X10_areActions n σ j6 a2) (fun v8 => if v8 = 0 then bd2 (f_X11_refuse σ (-6)) (fun v15 σ14 => some (v15, σ14)) else ld (fun k => k) 8 a1 (fun j9 => bd2 (f_X10_commonestPair n σ j9 a2) (fun v12 σ11 => some (((100 * (v12 / 24)) + (v12 - v12 / 24 * 24)), σ11))))) else bd2 (f_X11_refuse σ (-5)) (fun v18 σ17 => some (v18, σ17)) else bd2 (f_X11_refuse σ v2) (fun v21 σ20 => some (v21, σ20)))
theorem mi_X11_mostPair : MI yX11_mostPair cX11_mostPair 5 (some .int) 2 := ⟨im_X11_mostPair, se_X11_mostPair, in_X11, co_X11_mostPair, by decide, by decide, by decide +kernel⟩
set_option maxRecDepth 100000 in
set_option maxHeartbeats 4000000 in
theorem ct_X11_mostPair (l : Launch) (n : Nat) (G : EN) (A : Nat → Nat) (σ : SC) (sz : Nat) (a1 : Int32) (a2 : Int32) {r0 : Int32} {σ0 : SC} (h : f_X11_mostPair n σ a1 a2 = some (r0, σ0)) : CT l yX11_mostPair cX11_mostPair 5 (some .int) rmX11_mostPair G sz [.ref (A 0), .int a1, .int a2] (wC G A σ) (QI G (va_A (wC G A σ) sz) r0 (wC G A σ0)) := by
  unfold f_X11_mostPair at h
  refine CI.intro (lv := [(0, .ref (A 0)), (1, .int a1), (2, .int a2)]) (by decide) (Nat.le_of_ble_eq_true rfl) rfl ?_
  intro p e s m args below meth c Q B S hret H locs ls hW hl
  have hx := S.1
  have hb := S.2.1
  refine lv_aload_n hx hb dX11_mostPair_0 rfl (lv_at hl 0 rfl) ?_
  refine lv_iload_n hx hb dX11_mostPair_1 rfl (lv_at hl 1 rfl) ?_
  refine lv_iload_n hx hb dX11_mostPair_2 rfl (lv_at hl 2 rfl) ?_
  obtain ⟨v2, h1, h⟩ := bd_o h
  refine back_i (rest := []) hW (run_V S hW (ct_X11_refusalOfTold l G A σ _ a1 a2 h1) mi_X11_refusalOfTold lk_X11_313 (eC_0 G A σ) rfl rfl rfl hl (Nat.le_of_ble_eq_true rfl) dX11_mostPair_3 ⟨Nat.le_of_ble_eq_true rfl, Nat.le_of_ble_eq_true rfl⟩ rfl rfl) (fun H locs hW => ?_)
  refine lv_istore_n (lv' := [(3, .int v2), (0, .ref (A 0)), (1, .int a1), (2, .int a2)]) hx hb dX11_mostPair_6 rfl hl (by decide) rfl (fun ls hl => ?_)
  refine lv_iload_n hx hb dX11_mostPair_7 rfl (lv_at hl 0 rfl) ?_
  refine bz_eq (tgt := 17) hx hb h dX11_mostPair_8 (by decide) (fun _ h => ?_) (fun _ h => ?_)
  · refine lv_iload_n hx hb dX11_mostPair_17 rfl (lv_at hl 3 rfl) ?_
    refine lv_iconst (v := 2) hx hb dX11_mostPair_18 (by decide) ?_
    refine bc_ge (tgt := 29) hx hb h dX11_mostPair_19 (by decide) (fun _ h => ?_) (fun _ h => ?_)
    · refine lv_iload_n hx hb dX11_mostPair_29 rfl (lv_at hl 3 rfl) ?_
      refine lv_bipush (v := 100) hx hb dX11_mostPair_30 (by decide) ?_
      refine bc_gt (tgt := 52) hx hb h dX11_mostPair_32 (by decide) (fun _ h => ?_) (fun _ h => ?_)
      · refine lv_aload_n hx hb dX11_mostPair_52 rfl (lv_at hl 1 rfl) ?_
        refine lv_bipush (v := (-6)) hx hb dX11_mostPair_53 (by decide) ?_
        obtain ⟨v5, σ4, h3, h⟩ := bd2_o h
        refine back_i (rest := []) hW (run_V S hW (ct_X11_refuse l G A σ _ (-6) h3) mi_X11_refuse lk_X11_108 (eC_0 G A σ) rfl rfl rfl hl (Nat.le_of_ble_eq_true rfl) dX11_mostPair_55 ⟨Nat.le_of_ble_eq_true rfl, Nat.le_of_ble_eq_true rfl⟩ rfl rfl) (fun H locs hW => ?_)
        exact ret_is (wf := wC G A) hret h rfl hW dX11_mostPair_58
      · refine lv_aload_n hx hb dX11_mostPair_35 rfl (lv_at hl 1 rfl) ?_
        refine gC_X11_told S hW lk_X11_66 dX11_mostPair_36 ?_
        refine lv_aload_n hx hb dX11_mostPair_39 rfl (lv_at hl 1 rfl) ?_
        refine gC_X11_shelves S hW lk_X11_18 dX11_mostPair_40 ?_
        refine lv_iload_n hx hb dX11_mostPair_43 rfl (lv_at hl 2 rfl) ?_
        refine aC_shelf S hW h dX11_mostPair_44 (fun j6 hj6 h => ?_)
        refine lv_iload_n hx hb dX11_mostPair_45 rfl (lv_at hl 3 rfl) ?_
        obtain ⟨v8, h7, h⟩ := bd_o h
        refine back_i (rest := []) hW (run_V S hW (ct_X10_areActions l n G A σ _ j6 a2 hj6 h7) mi_X10_areActions lk_X11_329 (eC_26 G A σ) rfl rfl rfl hl (Nat.le_of_ble_eq_true rfl) dX11_mostPair_46 ⟨Nat.le_of_ble_eq_true rfl, Nat.le_of_ble_eq_true rfl⟩ rfl rfl) (fun H locs hW => ?_)
        refine bz_ne (tgt := 59) hx hb h dX11_mostPair_49 (by decide) (fun _ h => ?_) (fun _ h => ?_)
        · refine lv_aload_n hx hb dX11_mostPair_52 rfl (lv_at hl 1 rfl) ?_
          refine lv_bipush (v := (-6)) hx hb dX11_mostPair_53 (by decide) ?_
          obtain ⟨v15, σ14, h13, h⟩ := bd2_o h
          refine back_i (rest := []) hW (run_V S hW (ct_X11_refuse l G A σ _ (-6) h13) mi_X11_refuse lk_X11_108 (eC_0 G A σ) rfl rfl rfl hl (Nat.le_of_ble_eq_true rfl) dX11_mostPair_55 ⟨Nat.le_of_ble_eq_true rfl, Nat.le_of_ble_eq_true rfl⟩ rfl rfl) (fun H locs hW => ?_)
          exact ret_is (wf := wC G A) hret h rfl hW dX11_mostPair_58
        · refine lv_aload_n hx hb dX11_mostPair_59 rfl (lv_at hl 1 rfl) ?_
          refine gC_X11_told S hW lk_X11_66 dX11_mostPair_60 ?_
          refine lv_aload_n hx hb dX11_mostPair_63 rfl (lv_at hl 1 rfl) ?_
          refine gC_X11_shelves S hW lk_X11_18 dX11_mostPair_64 ?_
          refine lv_iload_n hx hb dX11_mostPair_67 rfl (lv_at hl 2 rfl) ?_
          refine aC_shelf S hW h dX11_mostPair_68 (fun j9 hj9 h => ?_)
          refine lv_iload_n hx hb dX11_mostPair_69 rfl (lv_at hl 3 rfl) ?_
          obtain ⟨v12, σ11, h10, h⟩ := bd2_o h
          refine back_i (rest := []) hW (run_V S hW (ct_X10_commonestPair l n G A σ _ j9 a2 hj9 h10) mi_X10_commonestPair lk_X11_333 (eC_26 G A σ) rfl rfl rfl hl (Nat.le_of_ble_eq_true rfl) dX11_mostPair_70 ⟨Nat.le_of_ble_eq_true rfl, Nat.le_of_ble_eq_true rfl⟩ rfl rfl) (fun H locs hW => ?_)
          refine lv_istore (lv' := [(4, .int v12), (3, .int v2), (0, .ref (A 0)), (1, .int a1), (2, .int a2)]) hx hb dX11_mostPair_73 hl (by decide) rfl (fun ls hl => ?_)
          refine lv_bipush (v := 100) hx hb dX11_mostPair_75 (by decide) ?_
          refine lv_iload hx hb dX11_mostPair_77 (lv_at hl 0 rfl) ?_
          refine lv_bipush (v := 24) hx hb dX11_mostPair_79 (by decide) ?_
          refine lv_idiv hx hb dX11_mostPair_81 (by decide) ?_
          refine lv_imul hx hb dX11_mostPair_82 ?_
          refine lv_iload hx hb dX11_mostPair_83 (lv_at hl 0 rfl) ?_
          refine lv_bipush (v := 24) hx hb dX11_mostPair_85 (by decide) ?_
          refine lv_irem hx hb dX11_mostPair_87 (by decide) ?_
          refine lv_iadd hx hb dX11_mostPair_88 ?_
          exact ret_is (wf := wC G A) hret h rfl hW dX11_mostPair_89
    · refine lv_aload_n hx hb dX11_mostPair_22 rfl (lv_at hl 1 rfl) ?_
      refine lv_bipush (v := (-5)) hx hb dX11_mostPair_23 (by decide) ?_
      obtain ⟨v18, σ17, h16, h⟩ := bd2_o h
      refine back_i (rest := []) hW (run_V S hW (ct_X11_refuse l G A σ _ (-5) h16) mi_X11_refuse lk_X11_108 (eC_0 G A σ) rfl rfl rfl hl (Nat.le_of_ble_eq_true rfl) dX11_mostPair_25 ⟨Nat.le_of_ble_eq_true rfl, Nat.le_of_ble_eq_true rfl⟩ rfl rfl) (fun H locs hW => ?_)
      exact ret_is (wf := wC G A) hret h rfl hW dX11_mostPair_28
  · refine lv_aload_n hx hb dX11_mostPair_11 rfl (lv_at hl 1 rfl) ?_
    refine lv_iload_n hx hb dX11_mostPair_12 rfl (lv_at hl 0 rfl) ?_
    obtain ⟨v21, σ20, h19, h⟩ := bd2_o h
    refine back_i (rest := []) hW (run_V S hW (ct_X11_refuse l G A σ _ v2 h19) mi_X11_refuse lk_X11_108 (eC_0 G A σ) rfl rfl rfl hl (Nat.le_of_ble_eq_true rfl) dX11_mostPair_13 ⟨Nat.le_of_ble_eq_true rfl, Nat.le_of_ble_eq_true rfl⟩ rfl rfl) (fun H locs hW => ?_)
    exact ret_is (wf := wC G A) hret h rfl hW dX11_mostPair_16
def rmX11_step : Room := { frames := 1, cells := 0, slots := 0, locals := 22 }
def f_X11_step (σ : SC) (a1 : Int32) : Option SC := if (f_X0_has σ a1) = 0 then some σ else if 40 ≤ (gi σ 0) then some σ else bd (f_X0_after σ (gi σ 3) a1) (fun v2 => lt (si σ 3 v2) (fun σ3 => ck 40 (gi σ3 0) (lt (sa σ3 18 (upd (ga σ3 18) (gi σ3 0).toNatClampNeg a1)) (fun σ4 => lt (si σ4 0 ((gi σ4 0) + 1)) (fun σ5 => some σ5)))))
theorem mi_X11_step : MI yX11_step cX11_step 2 none 1 := ⟨im_X11_step, se_X11_step, in_X11, co_X11_step, by decide, by decide, by decide +kernel⟩
set_option maxRecDepth 100000 in
set_option maxHeartbeats 4000000 in
theorem ct_X11_step (l : Launch) (G : EN) (A : Nat → Nat) (σ : SC) (sz : Nat) (a1 : Int32) {σ0 : SC} (h : f_X11_step σ a1 = some σ0) : CT l yX11_step cX11_step 2 none rmX11_step G sz [.ref (A 0), .int a1] (wC G A σ) (QV G (va_A (wC G A σ) sz) (wC G A σ0)) := by
  unfold f_X11_step at h
  refine CV.intro (lv := [(0, .ref (A 0)), (1, .int a1)]) (by decide) (Nat.le_of_ble_eq_true rfl) rfl ?_
  intro p e s m args below meth c Q B S hret H locs ls hW hl
  have hx := S.1
  have hb := S.2.1
  refine lv_aload_n hx hb dX11_step_0 rfl (lv_at hl 0 rfl) ?_
  refine gC_X11_table S hW lk_X11_12 dX11_step_1 ?_
  refine lv_iload_n hx hb dX11_step_4 rfl (lv_at hl 1 rfl) ?_
  refine back_i (rest := []) hW (run_V S hW (ct_X0_has l G A σ _ a1 rfl) mi_X0_has lk_X11_148 (eC_1 G A σ) rfl rfl rfl hl (Nat.le_of_ble_eq_true rfl) dX11_step_5 ⟨Nat.le_of_ble_eq_true rfl, Nat.le_of_ble_eq_true rfl⟩ rfl rfl) (fun H locs hW => ?_)
  refine bz_eq (tgt := 56) hx hb h dX11_step_8 (by decide) (fun _ h => ?_) (fun _ h => ?_)
  · exact ret_vs (wf := wC G A) hret h hW dX11_step_56
  · refine lv_aload_n hx hb dX11_step_11 rfl (lv_at hl 0 rfl) ?_
    refine gC_X11_stepCount S hW lk_X11_84 dX11_step_12 ?_
    refine lv_bipush (v := 40) hx hb dX11_step_15 (by decide) ?_
    refine bc_ge (tgt := 56) hx hb h dX11_step_17 (by decide) (fun _ h => ?_) (fun _ h => ?_)
    · exact ret_vs (wf := wC G A) hret h hW dX11_step_56
    · refine lv_aload_n hx hb dX11_step_20 rfl (lv_at hl 0 rfl) ?_
      refine lv_aload_n hx hb dX11_step_21 rfl (lv_at hl 0 rfl) ?_
      refine gC_X11_table S hW lk_X11_12 dX11_step_22 ?_
      refine lv_aload_n hx hb dX11_step_25 rfl (lv_at hl 0 rfl) ?_
      refine gC_X11_nowState S hW lk_X11_94 dX11_step_26 ?_
      refine lv_iload_n hx hb dX11_step_29 rfl (lv_at hl 1 rfl) ?_
      obtain ⟨v2, h1, h⟩ := bd_o h
      refine back_i (rest := [.ref (A 0)]) hW (run_V S hW (ct_X0_after l G A σ _ (gi σ 3) a1 h1) mi_X0_after lk_X11_230 (eC_1 G A σ) rfl rfl rfl hl (Nat.le_of_ble_eq_true rfl) dX11_step_30 ⟨Nat.le_of_ble_eq_true rfl, Nat.le_of_ble_eq_true rfl⟩ rfl rfl) (fun H locs hW => ?_)
      refine pC_X11_nowState S hW lk_X11_94 dX11_step_33 (fun σ3 H locs eσ3 hW => ?_)
      have h := lt_at eσ3 h
      refine lv_aload_n hx hb dX11_step_36 rfl (lv_at hl 0 rfl) ?_
      refine gC_X11_steps S hW lk_X11_81 dX11_step_37 ?_
      refine lv_aload_n hx hb dX11_step_40 rfl (lv_at hl 0 rfl) ?_
      refine gC_X11_stepCount S hW lk_X11_84 dX11_step_41 ?_
      refine lv_iload_n hx hb dX11_step_44 rfl (lv_at hl 1 rfl) ?_
      refine sC_30 S hW h dX11_step_45 (fun σ4 H locs eσ4 _ h hW => ?_)
      have h := lt_at eσ4 h
      refine lv_aload_n hx hb dX11_step_46 rfl (lv_at hl 0 rfl) ?_
      refine lv_dup hx hb dX11_step_47 rfl ?_
      refine gC_X11_stepCount S hW lk_X11_84 dX11_step_48 ?_
      refine lv_iconst (v := 1) hx hb dX11_step_51 (by decide) ?_
      refine lv_iadd hx hb dX11_step_52 ?_
      refine pC_X11_stepCount S hW lk_X11_84 dX11_step_53 (fun σ5 H locs eσ5 hW => ?_)
      have h := lt_at eσ5 h
      exact ret_vs (wf := wC G A) hret h hW dX11_step_56
def rmX11_greedy : Room := { frames := 17, cells := 0, slots := 0, locals := 523 }
def LX11_greedy_38 (n : Nat) (y1 : Int32) (y2 : Int32) (K : SC → Option (Int32 × SC)) : Nat → SC → Int32 → Option (Int32 × SC)
  | 0, _, _ => none
  | k + 1, σ, y3 => if y2 ≤ y3 then K σ else if ((gi σ 2) &&& ((gi σ 3) ^^^ (-1))) = 0 then K σ else bd2 (f_X2_greediest n σ (gi σ 3) (gi σ 2) y1) (fun v7 σ6 => if v7 = (-1) then K σ6 else bd (f_X11_step σ6 v7) (fun σ9 => lt (y3 + 1) (fun v10 => LX11_greedy_38 n y1 y2 K k σ9 v10)))
def f_X11_greedy (n : Nat) (σ : SC) (a1 : Int32) (a2 : Int32) : Option (Int32 × SC) := if (f_X11_isGuess a1) = 0 then bd2 (f_X11_refuse σ (-1)) (fun v17 σ16 => some (v17, σ16)) else if a2 < 1 then bd2 (f_X11_refuse σ (-6)) (fun v3 σ2 => some (v3, σ2)) else if a2 ≤ 40 then lt (si σ 0 0) (fun σ4 => LX11_greedy_38 n a1 a2 (fun σ11 => some ((gi σ11 0), σ11)) n σ4 0) else bd2 (f_X11_refuse σ (-6)) (fun v14 σ13 => some (v14, σ13))
theorem mi_X11_greedy : MI yX11_greedy cX11_greedy 5 (some .int) 2 := ⟨im_X11_greedy, se_X11_greedy, in_X11, co_X11_greedy, by decide, by decide, by decide +kernel⟩
set_option maxRecDepth 100000 in
set_option maxHeartbeats 4000000 in
theorem ct_X11_greedy (l : Launch) (n : Nat) (G : EN) (A : Nat → Nat) (σ : SC) (sz : Nat) (a1 : Int32) (a2 : Int32) {r0 : Int32} {σ0 : SC} (h : f_X11_greedy n σ a1 a2 = some (r0, σ0)) : CT l yX11_greedy cX11_greedy 5 (some .int) rmX11_greedy G sz [.ref (A 0), .int a1, .int a2] (wC G A σ) (QI G (va_A (wC G A σ) sz) r0 (wC G A σ0)) := by
  unfold f_X11_greedy at h
  refine CI.intro (lv := [(0, .ref (A 0)), (1, .int a1), (2, .int a2)]) (by decide) (Nat.le_of_ble_eq_true rfl) rfl ?_
  intro p e s m args below meth c Q B S hret H locs ls hW hl
  have hx := S.1
  have hb := S.2.1
  refine lv_iload_n hx hb dX11_greedy_0 rfl (lv_at hl 1 rfl) ?_
  refine back_i (rest := []) hW (run_S S hW (ct_X11_isGuess l G A σ _ a1 rfl) ms_X11_isGuess lk_X11_248 rfl rfl hl (Nat.le_of_ble_eq_true rfl) dX11_greedy_1 ⟨Nat.le_of_ble_eq_true rfl, Nat.le_of_ble_eq_true rfl⟩ rfl rfl) (fun H locs hW => ?_)
  refine bz_ne (tgt := 13) hx hb h dX11_greedy_4 (by decide) (fun _ h => ?_) (fun _ h => ?_)
  · refine lv_aload_n hx hb dX11_greedy_7 rfl (lv_at hl 0 rfl) ?_
    refine lv_iconst (v := (-1)) hx hb dX11_greedy_8 (by decide) ?_
    obtain ⟨v17, σ16, h15, h⟩ := bd2_o h
    refine back_i (rest := []) hW (run_V S hW (ct_X11_refuse l G A σ _ (-1) h15) mi_X11_refuse lk_X11_108 (eC_0 G A σ) rfl rfl rfl hl (Nat.le_of_ble_eq_true rfl) dX11_greedy_9 ⟨Nat.le_of_ble_eq_true rfl, Nat.le_of_ble_eq_true rfl⟩ rfl rfl) (fun H locs hW => ?_)
    exact ret_is (wf := wC G A) hret h rfl hW dX11_greedy_12
  · refine lv_iload_n hx hb dX11_greedy_13 rfl (lv_at hl 2 rfl) ?_
    refine lv_iconst (v := 1) hx hb dX11_greedy_14 (by decide) ?_
    refine bc_lt (tgt := 24) hx hb h dX11_greedy_15 (by decide) (fun _ h => ?_) (fun _ h => ?_)
    · refine lv_aload_n hx hb dX11_greedy_24 rfl (lv_at hl 0 rfl) ?_
      refine lv_bipush (v := (-6)) hx hb dX11_greedy_25 (by decide) ?_
      obtain ⟨v3, σ2, h1, h⟩ := bd2_o h
      refine back_i (rest := []) hW (run_V S hW (ct_X11_refuse l G A σ _ (-6) h1) mi_X11_refuse lk_X11_108 (eC_0 G A σ) rfl rfl rfl hl (Nat.le_of_ble_eq_true rfl) dX11_greedy_27 ⟨Nat.le_of_ble_eq_true rfl, Nat.le_of_ble_eq_true rfl⟩ rfl rfl) (fun H locs hW => ?_)
      exact ret_is (wf := wC G A) hret h rfl hW dX11_greedy_30
    · refine lv_iload_n hx hb dX11_greedy_18 rfl (lv_at hl 2 rfl) ?_
      refine lv_bipush (v := 40) hx hb dX11_greedy_19 (by decide) ?_
      refine bc_le (tgt := 31) hx hb h dX11_greedy_21 (by decide) (fun _ h => ?_) (fun _ h => ?_)
      · refine lv_aload_n hx hb dX11_greedy_31 rfl (lv_at hl 0 rfl) ?_
        refine lv_iconst (v := 0) hx hb dX11_greedy_32 (by decide) ?_
        refine pC_X11_stepCount S hW lk_X11_84 dX11_greedy_33 (fun σ4 H locs eσ4 hW => ?_)
        have h := lt_at eσ4 h
        refine lv_iconst (v := 0) hx hb dX11_greedy_36 (by decide) ?_
        refine lv_istore_n (lv' := [(3, .int 0), (0, .ref (A 0)), (1, .int a1), (2, .int a2)]) hx hb dX11_greedy_37 rfl hl (by decide) rfl (fun ls hl => ?_)
        have hL38 : ∀ (y1 : Int32) (y2 : Int32) (K : SC → Option (Int32 × SC)), (∀ (σ : SC) (H : Heap) (locs : List Loc) (ls : Array Slot), WS G B s (wC G A σ) H locs → lv_has ls 5 [(0, .ref (A 0))] → K σ = some (r0, σ0) → W p l e rmX11_greedy s m args below meth c H locs 0 0 Q (F0 m 96 ls [])) → ∀ (k : Nat) (σ : SC) (y3 : Int32)  (H : Heap) (locs : List Loc) (ls : Array Slot), WS G B s (wC G A σ) H locs → lv_has ls 5 [(0, .ref (A 0)), (1, .int y1), (2, .int y2), (3, .int y3)] → LX11_greedy_38 n y1 y2 K k σ y3 = some (r0, σ0) → W p l e rmX11_greedy s m args below meth c H locs 0 0 Q (F0 m 38 ls []) := by
          intro y1 y2 K hK k
          induction k with
          | zero => intro σ y3 H locs ls hW hl h; rw [LX11_greedy_38] at h; cases h
          | succ k ih =>
            intro σ y3 H locs ls hW hl h
            rw [LX11_greedy_38] at h
            refine lv_iload_n hx hb dX11_greedy_38 rfl (lv_at hl 3 rfl) ?_
            refine lv_iload_n hx hb dX11_greedy_39 rfl (lv_at hl 2 rfl) ?_
            refine bc_ge (tgt := 96) hx hb h dX11_greedy_40 (by decide) (fun _ h => ?_) (fun _ h => ?_)
            · exact hK σ _ _ _ hW (lv_sub hl [0] rfl) h
            · refine lv_aload_n hx hb dX11_greedy_43 rfl (lv_at hl 0 rfl) ?_
              refine gC_X11_goalSet S hW lk_X11_91 dX11_greedy_44 ?_
              refine lv_aload_n hx hb dX11_greedy_47 rfl (lv_at hl 0 rfl) ?_
              refine gC_X11_nowState S hW lk_X11_94 dX11_greedy_48 ?_
              refine lv_iconst (v := (-1)) hx hb dX11_greedy_51 (by decide) ?_
              refine lv_ixor hx hb dX11_greedy_52 ?_
              refine lv_iand hx hb dX11_greedy_53 ?_
              refine bz_eq (tgt := 96) hx hb h dX11_greedy_54 (by decide) (fun _ h => ?_) (fun _ h => ?_)
              · exact hK σ _ _ _ hW (lv_sub hl [0] rfl) h
              · refine lv_aload_n hx hb dX11_greedy_57 rfl (lv_at hl 0 rfl) ?_
                refine gC_X11_guesser S hW lk_X11_36 dX11_greedy_58 ?_
                refine lv_aload_n hx hb dX11_greedy_61 rfl (lv_at hl 0 rfl) ?_
                refine gC_X11_nowState S hW lk_X11_94 dX11_greedy_62 ?_
                refine lv_aload_n hx hb dX11_greedy_65 rfl (lv_at hl 0 rfl) ?_
                refine gC_X11_goalSet S hW lk_X11_91 dX11_greedy_66 ?_
                refine lv_iload_n hx hb dX11_greedy_69 rfl (lv_at hl 1 rfl) ?_
                obtain ⟨v7, σ6, h5, h⟩ := bd2_o h
                refine back_i (rest := []) hW (run_V S hW (ct_X2_greediest l n G A σ _ (gi σ 3) (gi σ 2) y1 h5) mi_X2_greediest lk_X11_337 (eC_13 G A σ) rfl rfl rfl hl (Nat.le_of_ble_eq_true rfl) dX11_greedy_70 ⟨Nat.le_of_ble_eq_true rfl, Nat.le_of_ble_eq_true rfl⟩ rfl rfl) (fun H locs hW => ?_)
                refine lv_istore (lv' := [(4, .int v7), (0, .ref (A 0)), (1, .int y1), (2, .int y2), (3, .int y3)]) hx hb dX11_greedy_73 hl (by decide) rfl (fun ls hl => ?_)
                refine lv_iload hx hb dX11_greedy_75 (lv_at hl 0 rfl) ?_
                refine lv_iconst (v := (-1)) hx hb dX11_greedy_77 (by decide) ?_
                refine bc_ne (tgt := 84) hx hb h dX11_greedy_78 (by decide) (fun _ h => ?_) (fun _ h => ?_)
                · refine lv_goto (tgt := 96) hx hb dX11_greedy_81 (by decide) ?_
                  exact hK σ6 _ _ _ hW (lv_sub hl [1] rfl) h
                · refine lv_aload_n hx hb dX11_greedy_84 rfl (lv_at hl 1 rfl) ?_
                  refine lv_iload hx hb dX11_greedy_85 (lv_at hl 0 rfl) ?_
                  obtain ⟨σ9, h8, h⟩ := bd_o h
                  refine back_v (rest := []) hW (run_V S hW (ct_X11_step l G A σ6 _ v7 h8) mi_X11_step lk_X11_340 (eC_0 G A σ6) rfl rfl rfl hl (Nat.le_of_ble_eq_true rfl) dX11_greedy_87 ⟨Nat.le_of_ble_eq_true rfl, Nat.le_of_ble_eq_true rfl⟩ rfl rfl) (fun H locs hW => ?_)
                  refine w_iinc (lv' := [(4, .int v7), (0, .ref (A 0)), (1, .int y1), (2, .int y2)]) hx hb dX11_greedy_90 hl (k := 4) rfl (by decide) (by decide) rfl h (fun v10 ls hl h => ?_)
                  refine lv_goto (tgt := 38) hx hb dX11_greedy_93 (by decide) ?_
                  exact ih σ9 v10 _ _ _ hW (lv_sub hl [2, 3, 4, 0] rfl) h
        refine hL38 a1 a2 _ (fun σ11 H locs ls hW hl h => ?_) n σ4 0 _ _ _ hW (lv_sub hl [1, 2, 3, 0] rfl) h
        refine lv_aload_n hx hb dX11_greedy_96 rfl (lv_at hl 0 rfl) ?_
        refine gC_X11_stepCount S hW lk_X11_84 dX11_greedy_97 ?_
        exact ret_is (wf := wC G A) hret h rfl hW dX11_greedy_100
      · refine lv_aload_n hx hb dX11_greedy_24 rfl (lv_at hl 0 rfl) ?_
        refine lv_bipush (v := (-6)) hx hb dX11_greedy_25 (by decide) ?_
        obtain ⟨v14, σ13, h12, h⟩ := bd2_o h
        refine back_i (rest := []) hW (run_V S hW (ct_X11_refuse l G A σ _ (-6) h12) mi_X11_refuse lk_X11_108 (eC_0 G A σ) rfl rfl rfl hl (Nat.le_of_ble_eq_true rfl) dX11_greedy_27 ⟨Nat.le_of_ble_eq_true rfl, Nat.le_of_ble_eq_true rfl⟩ rfl rfl) (fun H locs hW => ?_)
        exact ret_is (wf := wC G A) hret h rfl hW dX11_greedy_30
def rmX11_draw : Room := { frames := 0, cells := 0, slots := 0, locals := 0 }
def f_X11_draw (σ : SC) (a1 : Int32) : Option (Int32 × SC) := lt (si σ 4 (((gi σ 4) * 1103515245) + 12345)) (fun σ1 => if a1 ≤ 0 then some (0, σ1) else dv a1 (some (((((gi σ1 4).toUInt32 >>> ((16 : Int32).toUInt32 &&& Int32.toUInt32 31)).toInt32) - (((gi σ1 4).toUInt32 >>> ((16 : Int32).toUInt32 &&& Int32.toUInt32 31)).toInt32) / a1 * a1), σ1)))
theorem mi_X11_draw : MI yX11_draw cX11_draw 2 (some .int) 1 := ⟨im_X11_draw, se_X11_draw, in_X11, co_X11_draw, by decide, by decide, by decide +kernel⟩
set_option maxRecDepth 100000 in
set_option maxHeartbeats 4000000 in
theorem ct_X11_draw (l : Launch) (G : EN) (A : Nat → Nat) (σ : SC) (sz : Nat) (a1 : Int32) {r0 : Int32} {σ0 : SC} (h : f_X11_draw σ a1 = some (r0, σ0)) : CT l yX11_draw cX11_draw 2 (some .int) rmX11_draw G sz [.ref (A 0), .int a1] (wC G A σ) (QI G (va_A (wC G A σ) sz) r0 (wC G A σ0)) := by
  unfold f_X11_draw at h
  refine CI.intro (lv := [(0, .ref (A 0)), (1, .int a1)]) (by decide) (Nat.le_of_ble_eq_true rfl) rfl ?_
  intro p e s m args below meth c Q B S hret H locs ls hW hl
  have hx := S.1
  have hb := S.2.1
  refine lv_aload_n hx hb dX11_draw_0 rfl (lv_at hl 0 rfl) ?_
  refine lv_aload_n hx hb dX11_draw_1 rfl (lv_at hl 0 rfl) ?_
  refine gC_X11_seedValue S hW lk_X11_97 dX11_draw_2 ?_
  refine lv_ldcw (v := 1103515245) hx hb S.2.2.2.1 (S.2.2.2.2 _ lk_X11_395) dX11_draw_5 ?_
  refine lv_imul hx hb dX11_draw_8 ?_
  refine lv_sipush (v := 12345) hx hb dX11_draw_9 (by decide) ?_
  refine lv_iadd hx hb dX11_draw_12 ?_
  refine pC_X11_seedValue S hW lk_X11_97 dX11_draw_13 (fun σ1 H locs eσ1 hW => ?_)
  have h := lt_at eσ1 h
  refine lv_iload_n hx hb dX11_draw_16 rfl (lv_at hl 1 rfl) ?_
  refine bz_le (tgt := 32) hx hb h dX11_draw_17 (by decide) (fun _ h => ?_) (fun _ h => ?_)
  · refine lv_iconst (v := 0) hx hb dX11_draw_32 (by decide) ?_
    exact ret_is (wf := wC G A) hret h rfl hW dX11_draw_33
  · refine lv_aload_n hx hb dX11_draw_20 rfl (lv_at hl 0 rfl) ?_
    refine gC_X11_seedValue S hW lk_X11_97 dX11_draw_21 ?_
    refine lv_bipush (v := 16) hx hb dX11_draw_24 (by decide) ?_
    refine lv_iushr hx hb dX11_draw_26 rfl ?_
    refine lv_iload_n hx hb dX11_draw_27 rfl (lv_at hl 1 rfl) ?_
    obtain ⟨q2, h⟩ := dv_o h
    refine lv_irem hx hb dX11_draw_28 q2 ?_
    refine lv_goto (tgt := 33) hx hb dX11_draw_29 (by decide) ?_
    exact ret_is (wf := wC G A) hret h rfl hW dX11_draw_33
def rmX11_actionBehind : Room := { frames := 0, cells := 0, slots := 0, locals := 0 }
def LX11_actionBehind_4 (y0 : Int32) (y1 : Int32) (K : Unit → Option Int32) : Nat → Int32 → Int32 → Option Int32
  | 0, _, _ => none
  | k + 1, y2, y3 => if 24 ≤ y3 then K () else if (y0 &&& (1 <<< (y3 &&& 31))) = 0 then lt (y3 + 1) (fun v1 => LX11_actionBehind_4 y0 y1 K k y2 v1) else if y2 = y1 then some y3 else lt (y2 + 1) (fun v2 => lt (y3 + 1) (fun v3 => LX11_actionBehind_4 y0 y1 K k v2 v3))
def f_X11_actionBehind (n : Nat) (a0 : Int32) (a1 : Int32) : Option Int32 := LX11_actionBehind_4 a0 a1 (fun _ => some (-1)) n 0 0
theorem ms_X11_actionBehind : MSt yX11_actionBehind cX11_actionBehind 4 (some .int) 2 := ⟨sm_X11_actionBehind, in_X11, co_X11_actionBehind, by decide, by decide, by decide +kernel⟩
set_option maxRecDepth 100000 in
set_option maxHeartbeats 4000000 in
theorem ct_X11_actionBehind (l : Launch) (n : Nat) (G : EN) (A : Nat → Nat) (σ : SC) (sz : Nat) (a0 : Int32) (a1 : Int32) {r0 : Int32} (h : f_X11_actionBehind n a0 a1 = some r0) : CT l yX11_actionBehind cX11_actionBehind 4 (some .int) rmX11_actionBehind G sz [.int a0, .int a1] (wC G A σ) (QI G (va_A (wC G A σ) sz) r0 (wC G A σ)) := by
  unfold f_X11_actionBehind at h
  refine CI.intro (lv := [(0, .int a0), (1, .int a1)]) (by decide) (Nat.le_of_ble_eq_true rfl) rfl ?_
  intro p e s m args below meth c Q B S hret H locs ls hW hl
  have hx := S.1
  have hb := S.2.1
  refine lv_iconst (v := 0) hx hb dX11_actionBehind_0 (by decide) ?_
  refine lv_istore_n (lv' := [(2, .int 0), (0, .int a0), (1, .int a1)]) hx hb dX11_actionBehind_1 rfl hl (by decide) rfl (fun ls hl => ?_)
  refine lv_iconst (v := 0) hx hb dX11_actionBehind_2 (by decide) ?_
  refine lv_istore_n (lv' := [(3, .int 0), (2, .int 0), (0, .int a0), (1, .int a1)]) hx hb dX11_actionBehind_3 rfl hl (by decide) rfl (fun ls hl => ?_)
  have hL4 : ∀ (y0 : Int32) (y1 : Int32) (K : Unit → Option Int32), (∀  (H : Heap) (locs : List Loc) (ls : Array Slot), WS G B s (wC G A σ) H locs → lv_has ls 4 [] → K () = some r0 → W p l e rmX11_actionBehind s m args below meth c H locs 0 0 Q (F0 m 34 ls [])) → ∀ (k : Nat)  (y2 : Int32) (y3 : Int32)  (H : Heap) (locs : List Loc) (ls : Array Slot), WS G B s (wC G A σ) H locs → lv_has ls 4 [(0, .int y0), (1, .int y1), (2, .int y2), (3, .int y3)] → LX11_actionBehind_4 y0 y1 K k y2 y3 = some r0 → W p l e rmX11_actionBehind s m args below meth c H locs 0 0 Q (F0 m 4 ls []) := by
    intro y0 y1 K hK k
    induction k with
    | zero => intro y2 y3 H locs ls hW hl h; rw [LX11_actionBehind_4] at h; cases h
    | succ k ih =>
      intro y2 y3 H locs ls hW hl h
      rw [LX11_actionBehind_4] at h
      refine lv_iload_n hx hb dX11_actionBehind_4 rfl (lv_at hl 3 rfl) ?_
      refine lv_bipush (v := 24) hx hb dX11_actionBehind_5 (by decide) ?_
      refine bc_ge (tgt := 34) hx hb h dX11_actionBehind_7 (by decide) (fun _ h => ?_) (fun _ h => ?_)
      · exact hK  _ _ _ hW (lv_sub hl [] rfl) h
      · refine lv_iload_n hx hb dX11_actionBehind_10 rfl (lv_at hl 0 rfl) ?_
        refine lv_iconst (v := 1) hx hb dX11_actionBehind_11 (by decide) ?_
        refine lv_iload_n hx hb dX11_actionBehind_12 rfl (lv_at hl 3 rfl) ?_
        refine lv_ishl hx hb dX11_actionBehind_13 ?_
        refine lv_iand hx hb dX11_actionBehind_14 ?_
        refine bz_eq (tgt := 28) hx hb h dX11_actionBehind_15 (by decide) (fun _ h => ?_) (fun _ h => ?_)
        · refine w_iinc (lv' := [(0, .int y0), (1, .int y1), (2, .int y2)]) hx hb dX11_actionBehind_28 hl (k := 3) rfl (by decide) (by decide) rfl h (fun v1 ls hl h => ?_)
          refine lv_goto (tgt := 4) hx hb dX11_actionBehind_31 (by decide) ?_
          exact ih y2 v1 _ _ _ hW (lv_sub hl [1, 2, 3, 0] rfl) h
        · refine lv_iload_n hx hb dX11_actionBehind_18 rfl (lv_at hl 2 rfl) ?_
          refine lv_iload_n hx hb dX11_actionBehind_19 rfl (lv_at hl 1 rfl) ?_
          refine bc_ne (tgt := 25) hx hb h dX11_actionBehind_20 (by decide) (fun _ h => ?_) (fun _ h => ?_)
          · refine lv_iload_n hx hb dX11_actionBehind_23 rfl (lv_at hl 3 rfl) ?_
            exact hret H locs _ ls _ (Option.some.inj h) rfl hW dX11_actionBehind_24
          · refine w_iinc (lv' := [(0, .int y0), (1, .int y1), (3, .int y3)]) hx hb dX11_actionBehind_25 hl (k := 2) rfl (by decide) (by decide) rfl h (fun v2 ls hl h => ?_)
            refine w_iinc (lv' := [(2, .int v2), (0, .int y0), (1, .int y1)]) hx hb dX11_actionBehind_28 hl (k := 3) rfl (by decide) (by decide) rfl h (fun v3 ls hl h => ?_)
            refine lv_goto (tgt := 4) hx hb dX11_actionBehind_31 (by decide) ?_
            exact ih v2 v3 _ _ _ hW (lv_sub hl [2, 3, 1, 0] rfl) h
  refine hL4 a0 a1 _ (fun  H locs ls hW hl h => ?_) n 0 0 _ _ _ hW (lv_sub hl [2, 3, 1, 0] rfl) h
  refine lv_iconst (v := (-1)) hx hb dX11_actionBehind_34 (by decide) ?_
  exact hret H locs _ ls _ (Option.some.inj h) rfl hW dX11_actionBehind_35
def rmX11_walk : Room := { frames := 2, cells := 0, slots := 0, locals := 45 }
def LX11_walk_25 (n : Nat) (y1 : Int32) (K : SC → Option (Int32 × SC)) : Nat → SC → Int32 → Option (Int32 × SC)
  | 0, _, _ => none
  | k + 1, σ, y2 => if y1 ≤ y2 then K σ else bd (f_X0_allowedIn n σ (gi σ 3)) (fun v6 => if v6 = 0 then K σ else bd2 (f_X11_draw σ (f_J6_bitCount_0f7a4 v6)) (fun v9 σ8 => bd (f_X11_actionBehind n v6 v9) (fun v11 => bd (f_X11_step σ8 v11) (fun σ13 => lt (y2 + 1) (fun v14 => LX11_walk_25 n y1 K k σ13 v14)))))
def f_X11_walk (n : Nat) (σ : SC) (a1 : Int32) : Option (Int32 × SC) := if a1 < 1 then bd2 (f_X11_refuse σ (-6)) (fun v3 σ2 => some (v3, σ2)) else if a1 ≤ 40 then lt (si σ 0 0) (fun σ4 => LX11_walk_25 n a1 (fun σ15 => some ((gi σ15 0), σ15)) n σ4 0) else bd2 (f_X11_refuse σ (-6)) (fun v18 σ17 => some (v18, σ17))
theorem mi_X11_walk : MI yX11_walk cX11_walk 4 (some .int) 1 := ⟨im_X11_walk, se_X11_walk, in_X11, co_X11_walk, by decide, by decide, by decide +kernel⟩
set_option maxRecDepth 100000 in
set_option maxHeartbeats 4000000 in
theorem ct_X11_walk (l : Launch) (n : Nat) (G : EN) (A : Nat → Nat) (σ : SC) (sz : Nat) (a1 : Int32) {r0 : Int32} {σ0 : SC} (h : f_X11_walk n σ a1 = some (r0, σ0)) : CT l yX11_walk cX11_walk 4 (some .int) rmX11_walk G sz [.ref (A 0), .int a1] (wC G A σ) (QI G (va_A (wC G A σ) sz) r0 (wC G A σ0)) := by
  unfold f_X11_walk at h
  refine CI.intro (lv := [(0, .ref (A 0)), (1, .int a1)]) (by decide) (Nat.le_of_ble_eq_true rfl) rfl ?_
  intro p e s m args below meth c Q B S hret H locs ls hW hl
  have hx := S.1
  have hb := S.2.1
  refine lv_iload_n hx hb dX11_walk_0 rfl (lv_at hl 1 rfl) ?_
  refine lv_iconst (v := 1) hx hb dX11_walk_1 (by decide) ?_
  refine bc_lt (tgt := 11) hx hb h dX11_walk_2 (by decide) (fun _ h => ?_) (fun _ h => ?_)
  · refine lv_aload_n hx hb dX11_walk_11 rfl (lv_at hl 0 rfl) ?_
    refine lv_bipush (v := (-6)) hx hb dX11_walk_12 (by decide) ?_
    obtain ⟨v3, σ2, h1, h⟩ := bd2_o h
    refine back_i (rest := []) hW (run_V S hW (ct_X11_refuse l G A σ _ (-6) h1) mi_X11_refuse lk_X11_108 (eC_0 G A σ) rfl rfl rfl hl (Nat.le_of_ble_eq_true rfl) dX11_walk_14 ⟨Nat.le_of_ble_eq_true rfl, Nat.le_of_ble_eq_true rfl⟩ rfl rfl) (fun H locs hW => ?_)
    exact ret_is (wf := wC G A) hret h rfl hW dX11_walk_17
  · refine lv_iload_n hx hb dX11_walk_5 rfl (lv_at hl 1 rfl) ?_
    refine lv_bipush (v := 40) hx hb dX11_walk_6 (by decide) ?_
    refine bc_le (tgt := 18) hx hb h dX11_walk_8 (by decide) (fun _ h => ?_) (fun _ h => ?_)
    · refine lv_aload_n hx hb dX11_walk_18 rfl (lv_at hl 0 rfl) ?_
      refine lv_iconst (v := 0) hx hb dX11_walk_19 (by decide) ?_
      refine pC_X11_stepCount S hW lk_X11_84 dX11_walk_20 (fun σ4 H locs eσ4 hW => ?_)
      have h := lt_at eσ4 h
      refine lv_iconst (v := 0) hx hb dX11_walk_23 (by decide) ?_
      refine lv_istore_n (lv' := [(2, .int 0), (0, .ref (A 0)), (1, .int a1)]) hx hb dX11_walk_24 rfl hl (by decide) rfl (fun ls hl => ?_)
      have hL25 : ∀ (y1 : Int32) (K : SC → Option (Int32 × SC)), (∀ (σ : SC) (H : Heap) (locs : List Loc) (ls : Array Slot), WS G B s (wC G A σ) H locs → lv_has ls 4 [(0, .ref (A 0))] → K σ = some (r0, σ0) → W p l e rmX11_walk s m args below meth c H locs 0 0 Q (F0 m 71 ls [])) → ∀ (k : Nat) (σ : SC) (y2 : Int32)  (H : Heap) (locs : List Loc) (ls : Array Slot), WS G B s (wC G A σ) H locs → lv_has ls 4 [(0, .ref (A 0)), (1, .int y1), (2, .int y2)] → LX11_walk_25 n y1 K k σ y2 = some (r0, σ0) → W p l e rmX11_walk s m args below meth c H locs 0 0 Q (F0 m 25 ls []) := by
        intro y1 K hK k
        induction k with
        | zero => intro σ y2 H locs ls hW hl h; rw [LX11_walk_25] at h; cases h
        | succ k ih =>
          intro σ y2 H locs ls hW hl h
          rw [LX11_walk_25] at h
          refine lv_iload_n hx hb dX11_walk_25 rfl (lv_at hl 2 rfl) ?_
          refine lv_iload_n hx hb dX11_walk_26 rfl (lv_at hl 1 rfl) ?_
          refine bc_ge (tgt := 71) hx hb h dX11_walk_27 (by decide) (fun _ h => ?_) (fun _ h => ?_)
          · exact hK σ _ _ _ hW (lv_sub hl [0] rfl) h
          · refine lv_aload_n hx hb dX11_walk_30 rfl (lv_at hl 0 rfl) ?_
            refine gC_X11_table S hW lk_X11_12 dX11_walk_31 ?_
            refine lv_aload_n hx hb dX11_walk_34 rfl (lv_at hl 0 rfl) ?_
            refine gC_X11_nowState S hW lk_X11_94 dX11_walk_35 ?_
            obtain ⟨v6, h5, h⟩ := bd_o h
            refine back_i (rest := []) hW (run_V S hW (ct_X0_allowedIn l n G A σ _ (gi σ 3) h5) mi_X0_allowedIn lk_X11_224 (eC_1 G A σ) rfl rfl rfl hl (Nat.le_of_ble_eq_true rfl) dX11_walk_38 ⟨Nat.le_of_ble_eq_true rfl, Nat.le_of_ble_eq_true rfl⟩ rfl rfl) (fun H locs hW => ?_)
            refine lv_istore_n (lv' := [(3, .int v6), (0, .ref (A 0)), (1, .int y1), (2, .int y2)]) hx hb dX11_walk_41 rfl hl (by decide) rfl (fun ls hl => ?_)
            refine lv_iload_n hx hb dX11_walk_42 rfl (lv_at hl 0 rfl) ?_
            refine bz_ne (tgt := 49) hx hb h dX11_walk_43 (by decide) (fun _ h => ?_) (fun _ h => ?_)
            · refine lv_goto (tgt := 71) hx hb dX11_walk_46 (by decide) ?_
              exact hK σ _ _ _ hW (lv_sub hl [1] rfl) h
            · refine lv_aload_n hx hb dX11_walk_49 rfl (lv_at hl 1 rfl) ?_
              refine lv_iload_n hx hb dX11_walk_50 rfl (lv_at hl 0 rfl) ?_
              refine lv_aload_n hx hb dX11_walk_51 rfl (lv_at hl 1 rfl) ?_
              refine lv_iload_n hx hb dX11_walk_52 rfl (lv_at hl 0 rfl) ?_
              refine back_i (rest := [.ref (A 0), .int v6, .ref (A 0)]) hW (run_S S hW (ct_J6_bitCount_0f7a4 l G _ _ v6 rfl) ms_J6_bitCount_0f7a4 lk_X11_343 rfl rfl hl (Nat.le_of_ble_eq_true rfl) dX11_walk_53 ⟨Nat.le_of_ble_eq_true rfl, Nat.le_of_ble_eq_true rfl⟩ rfl rfl) (fun H locs hW => ?_)
              obtain ⟨v9, σ8, h7, h⟩ := bd2_o h
              refine back_i (rest := [.int v6, .ref (A 0)]) hW (run_V S hW (ct_X11_draw l G A σ _ (f_J6_bitCount_0f7a4 v6) h7) mi_X11_draw lk_X11_348 (eC_0 G A σ) rfl rfl rfl hl (Nat.le_of_ble_eq_true rfl) dX11_walk_56 ⟨Nat.le_of_ble_eq_true rfl, Nat.le_of_ble_eq_true rfl⟩ rfl rfl) (fun H locs hW => ?_)
              obtain ⟨v11, h10, h⟩ := bd_o h
              refine back_i (rest := [.ref (A 0)]) hW (run_S S hW (ct_X11_actionBehind l n G A σ8 _ v6 v9 h10) ms_X11_actionBehind lk_X11_351 rfl rfl hl (Nat.le_of_ble_eq_true rfl) dX11_walk_59 ⟨Nat.le_of_ble_eq_true rfl, Nat.le_of_ble_eq_true rfl⟩ rfl rfl) (fun H locs hW => ?_)
              obtain ⟨σ13, h12, h⟩ := bd_o h
              refine back_v (rest := []) hW (run_V S hW (ct_X11_step l G A σ8 _ v11 h12) mi_X11_step lk_X11_340 (eC_0 G A σ8) rfl rfl rfl hl (Nat.le_of_ble_eq_true rfl) dX11_walk_62 ⟨Nat.le_of_ble_eq_true rfl, Nat.le_of_ble_eq_true rfl⟩ rfl rfl) (fun H locs hW => ?_)
              refine w_iinc (lv' := [(3, .int v6), (0, .ref (A 0)), (1, .int y1)]) hx hb dX11_walk_65 hl (k := 3) rfl (by decide) (by decide) rfl h (fun v14 ls hl h => ?_)
              refine lv_goto (tgt := 25) hx hb dX11_walk_68 (by decide) ?_
              exact ih σ13 v14 _ _ _ hW (lv_sub hl [2, 3, 0] rfl) h
      refine hL25 a1 _ (fun σ15 H locs ls hW hl h => ?_) n σ4 0 _ _ _ hW (lv_sub hl [1, 2, 0] rfl) h
      refine lv_aload_n hx hb dX11_walk_71 rfl (lv_at hl 0 rfl) ?_
      refine gC_X11_stepCount S hW lk_X11_84 dX11_walk_72 ?_
      exact ret_is (wf := wC G A) hret h rfl hW dX11_walk_75
    · refine lv_aload_n hx hb dX11_walk_11 rfl (lv_at hl 0 rfl) ?_
      refine lv_bipush (v := (-6)) hx hb dX11_walk_12 (by decide) ?_
      obtain ⟨v18, σ17, h16, h⟩ := bd2_o h
      refine back_i (rest := []) hW (run_V S hW (ct_X11_refuse l G A σ _ (-6) h16) mi_X11_refuse lk_X11_108 (eC_0 G A σ) rfl rfl rfl hl (Nat.le_of_ble_eq_true rfl) dX11_walk_14 ⟨Nat.le_of_ble_eq_true rfl, Nat.le_of_ble_eq_true rfl⟩ rfl rfl) (fun H locs hW => ?_)
      exact ret_is (wf := wC G A) hret h rfl hW dX11_walk_17
def rmX11_seed : Room := { frames := 0, cells := 0, slots := 0, locals := 0 }
def f_X11_seed (σ : SC) (a1 : Int32) : Option (Int32 × SC) := lt (gi σ 4) (fun v1 => lt (si σ 4 a1) (fun σ2 => some (v1, σ2)))
theorem mi_X11_seed : MI yX11_seed cX11_seed 3 (some .int) 1 := ⟨im_X11_seed, se_X11_seed, in_X11, co_X11_seed, by decide, by decide, by decide +kernel⟩
set_option maxRecDepth 100000 in
set_option maxHeartbeats 4000000 in
theorem ct_X11_seed (l : Launch) (G : EN) (A : Nat → Nat) (σ : SC) (sz : Nat) (a1 : Int32) {r0 : Int32} {σ0 : SC} (h : f_X11_seed σ a1 = some (r0, σ0)) : CT l yX11_seed cX11_seed 3 (some .int) rmX11_seed G sz [.ref (A 0), .int a1] (wC G A σ) (QI G (va_A (wC G A σ) sz) r0 (wC G A σ0)) := by
  unfold f_X11_seed at h
  refine CI.intro (lv := [(0, .ref (A 0)), (1, .int a1)]) (by decide) (Nat.le_of_ble_eq_true rfl) rfl ?_
  intro p e s m args below meth c Q B S hret H locs ls hW hl
  have hx := S.1
  have hb := S.2.1
  refine lv_aload_n hx hb dX11_seed_0 rfl (lv_at hl 0 rfl) ?_
  refine gC_X11_seedValue S hW lk_X11_97 dX11_seed_1 ?_
  refine nm_i h (fun v1 h => ?_)
  refine lv_istore_n (lv' := [(2, .int v1), (0, .ref (A 0)), (1, .int a1)]) hx hb dX11_seed_4 rfl hl (by decide) rfl (fun ls hl => ?_)
  refine lv_aload_n hx hb dX11_seed_5 rfl (lv_at hl 1 rfl) ?_
  refine lv_iload_n hx hb dX11_seed_6 rfl (lv_at hl 2 rfl) ?_
  refine pC_X11_seedValue S hW lk_X11_97 dX11_seed_7 (fun σ2 H locs eσ2 hW => ?_)
  have h := lt_at eσ2 h
  refine lv_iload_n hx hb dX11_seed_10 rfl (lv_at hl 0 rfl) ?_
  exact ret_is (wf := wC G A) hret h rfl hW dX11_seed_11
def rmX11_trace : Room := { frames := 0, cells := 0, slots := 0, locals := 0 }
def f_X11_trace (σ : SC) (a1 : Int32) : Option Int32 := if a1 < 0 then some (-1) else if (gi σ 0) ≤ a1 then some (-1) else ld (ga σ 18) 40 a1 (fun v1 => some v1)
theorem mi_X11_trace : MI yX11_trace cX11_trace 2 (some .int) 1 := ⟨im_X11_trace, se_X11_trace, in_X11, co_X11_trace, by decide, by decide, by decide +kernel⟩
set_option maxRecDepth 100000 in
set_option maxHeartbeats 4000000 in
theorem ct_X11_trace (l : Launch) (G : EN) (A : Nat → Nat) (σ : SC) (sz : Nat) (a1 : Int32) {r0 : Int32} (h : f_X11_trace σ a1 = some r0) : CT l yX11_trace cX11_trace 2 (some .int) rmX11_trace G sz [.ref (A 0), .int a1] (wC G A σ) (QI G (va_A (wC G A σ) sz) r0 (wC G A σ)) := by
  unfold f_X11_trace at h
  refine CI.intro (lv := [(0, .ref (A 0)), (1, .int a1)]) (by decide) (Nat.le_of_ble_eq_true rfl) rfl ?_
  intro p e s m args below meth c Q B S hret H locs ls hW hl
  have hx := S.1
  have hb := S.2.1
  refine lv_iload_n hx hb dX11_trace_0 rfl (lv_at hl 1 rfl) ?_
  refine bz_lt (tgt := 21) hx hb h dX11_trace_1 (by decide) (fun _ h => ?_) (fun _ h => ?_)
  · refine lv_iconst (v := (-1)) hx hb dX11_trace_21 (by decide) ?_
    exact hret H locs _ ls _ (Option.some.inj h) rfl hW dX11_trace_22
  · refine lv_iload_n hx hb dX11_trace_4 rfl (lv_at hl 1 rfl) ?_
    refine lv_aload_n hx hb dX11_trace_5 rfl (lv_at hl 0 rfl) ?_
    refine gC_X11_stepCount S hW lk_X11_84 dX11_trace_6 ?_
    refine bc_ge (tgt := 21) hx hb h dX11_trace_9 (by decide) (fun _ h => ?_) (fun _ h => ?_)
    · refine lv_iconst (v := (-1)) hx hb dX11_trace_21 (by decide) ?_
      exact hret H locs _ ls _ (Option.some.inj h) rfl hW dX11_trace_22
    · refine lv_aload_n hx hb dX11_trace_12 rfl (lv_at hl 0 rfl) ?_
      refine gC_X11_steps S hW lk_X11_81 dX11_trace_13 ?_
      refine lv_iload_n hx hb dX11_trace_16 rfl (lv_at hl 1 rfl) ?_
      refine aC_30 S hW h dX11_trace_17 (fun v1 _ h => ?_)
      refine lv_goto (tgt := 22) hx hb dX11_trace_18 (by decide) ?_
      exact hret H locs _ ls _ (Option.some.inj h) rfl hW dX11_trace_22
def rmX11_image : Room := { frames := 0, cells := 0, slots := 0, locals := 0 }
def f_X11_image (σ : SC) : Option (Int32 × SC) := lt (si σ 33 1) (fun σ1 => lt (si σ1 34 (gi σ1 6)) (fun σ2 => lt (si σ2 35 (gi σ2 1)) (fun σ3 => lt (si σ3 36 (gi σ3 2)) (fun σ4 => lt (si σ4 37 (gi σ4 3)) (fun σ5 => lt (si σ5 38 (gi σ5 4)) (fun σ6 => some ((gi σ6 6), σ6)))))))
theorem mi_X11_image : MI yX11_image cX11_image 1 (some .int) 0 := ⟨im_X11_image, se_X11_image, in_X11, co_X11_image, by decide, by decide, by decide +kernel⟩
set_option maxRecDepth 100000 in
set_option maxHeartbeats 4000000 in
theorem ct_X11_image (l : Launch) (G : EN) (A : Nat → Nat) (σ : SC) (sz : Nat) {r0 : Int32} {σ0 : SC} (h : f_X11_image σ = some (r0, σ0)) : CT l yX11_image cX11_image 1 (some .int) rmX11_image G sz [.ref (A 0)] (wC G A σ) (QI G (va_A (wC G A σ) sz) r0 (wC G A σ0)) := by
  unfold f_X11_image at h
  refine CI.intro (lv := [(0, .ref (A 0))]) (by decide) (Nat.le_of_ble_eq_true rfl) rfl ?_
  intro p e s m args below meth c Q B S hret H locs ls hW hl
  have hx := S.1
  have hb := S.2.1
  refine lv_aload_n hx hb dX11_image_0 rfl (lv_at hl 0 rfl) ?_
  refine gC_X11_picture S hW lk_X11_73 dX11_image_1 ?_
  refine lv_iconst (v := 1) hx hb dX11_image_4 (by decide) ?_
  refine pC_X5_taken (Or.inr rfl) S hW lk_X11_354 dX11_image_5 (fun σ1 H locs eσ1 hW => ?_)
  have h := lt_at eσ1 h
  refine lv_aload_n hx hb dX11_image_8 rfl (lv_at hl 0 rfl) ?_
  refine gC_X11_picture S hW lk_X11_73 dX11_image_9 ?_
  refine lv_aload_n hx hb dX11_image_12 rfl (lv_at hl 0 rfl) ?_
  refine gC_X11_table S hW lk_X11_12 dX11_image_13 ?_
  refine gC_X0_count S hW lk_X11_176 dX11_image_16 ?_
  refine pC_X5_actions S hW lk_X11_357 dX11_image_19 (fun σ2 H locs eσ2 hW => ?_)
  have h := lt_at eσ2 h
  refine lv_aload_n hx hb dX11_image_22 rfl (lv_at hl 0 rfl) ?_
  refine gC_X11_picture S hW lk_X11_73 dX11_image_23 ?_
  refine lv_aload_n hx hb dX11_image_26 rfl (lv_at hl 0 rfl) ?_
  refine gC_X11_startSet S hW lk_X11_88 dX11_image_27 ?_
  refine pC_X5_start S hW lk_X11_360 dX11_image_30 (fun σ3 H locs eσ3 hW => ?_)
  have h := lt_at eσ3 h
  refine lv_aload_n hx hb dX11_image_33 rfl (lv_at hl 0 rfl) ?_
  refine gC_X11_picture S hW lk_X11_73 dX11_image_34 ?_
  refine lv_aload_n hx hb dX11_image_37 rfl (lv_at hl 0 rfl) ?_
  refine gC_X11_goalSet S hW lk_X11_91 dX11_image_38 ?_
  refine pC_X5_goal S hW lk_X11_363 dX11_image_41 (fun σ4 H locs eσ4 hW => ?_)
  have h := lt_at eσ4 h
  refine lv_aload_n hx hb dX11_image_44 rfl (lv_at hl 0 rfl) ?_
  refine gC_X11_picture S hW lk_X11_73 dX11_image_45 ?_
  refine lv_aload_n hx hb dX11_image_48 rfl (lv_at hl 0 rfl) ?_
  refine gC_X11_nowState S hW lk_X11_94 dX11_image_49 ?_
  refine pC_X5_now S hW lk_X11_366 dX11_image_52 (fun σ5 H locs eσ5 hW => ?_)
  have h := lt_at eσ5 h
  refine lv_aload_n hx hb dX11_image_55 rfl (lv_at hl 0 rfl) ?_
  refine gC_X11_picture S hW lk_X11_73 dX11_image_56 ?_
  refine lv_aload_n hx hb dX11_image_59 rfl (lv_at hl 0 rfl) ?_
  refine gC_X11_seedValue S hW lk_X11_97 dX11_image_60 ?_
  refine pC_X5_seed S hW lk_X11_369 dX11_image_63 (fun σ6 H locs eσ6 hW => ?_)
  have h := lt_at eσ6 h
  refine lv_aload_n hx hb dX11_image_66 rfl (lv_at hl 0 rfl) ?_
  refine gC_X11_table S hW lk_X11_12 dX11_image_67 ?_
  refine gC_X0_count S hW lk_X11_176 dX11_image_70 ?_
  exact ret_is (wf := wC G A) hret h rfl hW dX11_image_73
def rmX11_restore : Room := { frames := 2, cells := 0, slots := 0, locals := 40 }
def LX11_restore_77 (K : SC → Option (Int32 × SC)) : Nat → SC → Int32 → Option (Int32 × SC)
  | 0, _, _ => none
  | k + 1, σ, y1 => if 8 ≤ y1 then K σ else ld (fun k => k) 8 y1 (fun j6 => if (f_X8_hasAction σ j6) = 0 then lt (y1 + 1) (fun v7 => LX11_restore_77 K k σ v7) else ld (fun k => k) 8 y1 (fun j8 => if (f_X0_has σ (ga σ 20 j8)) = 0 then ld (fun k => k) 8 y1 (fun j10 => bd (f_X8_holdAction σ j10 (-1)) (fun σ12 => lt (y1 + 1) (fun v13 => LX11_restore_77 K k σ12 v13))) else lt (y1 + 1) (fun v9 => LX11_restore_77 K k σ v9)))
def f_X11_restore (n : Nat) (σ : SC) : Option (Int32 × SC) := if (gi σ 33) = 0 then bd2 (f_X11_refuse σ (-6)) (fun v19 σ18 => some (v19, σ18)) else lt (si σ 6 (gi σ 34)) (fun σ1 => lt (si σ1 1 (gi σ1 35)) (fun σ2 => lt (si σ2 2 (gi σ2 36)) (fun σ3 => lt (si σ3 3 (gi σ3 37)) (fun σ4 => lt (si σ4 4 (gi σ4 38)) (fun σ5 => LX11_restore_77 (fun σ14 => bd (f_X11_forgetSearch σ14) (fun σ16 => some ((gi σ16 6), σ16))) n σ5 0)))))
theorem mi_X11_restore : MI yX11_restore cX11_restore 2 (some .int) 0 := ⟨im_X11_restore, se_X11_restore, in_X11, co_X11_restore, by decide, by decide, by decide +kernel⟩
set_option maxRecDepth 100000 in
set_option maxHeartbeats 4000000 in
theorem ct_X11_restore (l : Launch) (n : Nat) (G : EN) (A : Nat → Nat) (σ : SC) (sz : Nat) {r0 : Int32} {σ0 : SC} (h : f_X11_restore n σ = some (r0, σ0)) : CT l yX11_restore cX11_restore 2 (some .int) rmX11_restore G sz [.ref (A 0)] (wC G A σ) (QI G (va_A (wC G A σ) sz) r0 (wC G A σ0)) := by
  unfold f_X11_restore at h
  refine CI.intro (lv := [(0, .ref (A 0))]) (by decide) (Nat.le_of_ble_eq_true rfl) rfl ?_
  intro p e s m args below meth c Q B S hret H locs ls hW hl
  have hx := S.1
  have hb := S.2.1
  refine lv_aload_n hx hb dX11_restore_0 rfl (lv_at hl 0 rfl) ?_
  refine gC_X11_picture S hW lk_X11_73 dX11_restore_1 ?_
  refine gC_X5_taken S hW lk_X11_354 dX11_restore_4 ?_
  refine bz_ne (tgt := 17) hx hb h dX11_restore_7 (by decide) (fun _ h => ?_) (fun _ h => ?_)
  · refine lv_aload_n hx hb dX11_restore_10 rfl (lv_at hl 0 rfl) ?_
    refine lv_bipush (v := (-6)) hx hb dX11_restore_11 (by decide) ?_
    obtain ⟨v19, σ18, h17, h⟩ := bd2_o h
    refine back_i (rest := []) hW (run_V S hW (ct_X11_refuse l G A σ _ (-6) h17) mi_X11_refuse lk_X11_108 (eC_0 G A σ) rfl rfl rfl hl (Nat.le_of_ble_eq_true rfl) dX11_restore_13 ⟨Nat.le_of_ble_eq_true rfl, Nat.le_of_ble_eq_true rfl⟩ rfl rfl) (fun H locs hW => ?_)
    exact ret_is (wf := wC G A) hret h rfl hW dX11_restore_16
  · refine lv_aload_n hx hb dX11_restore_17 rfl (lv_at hl 0 rfl) ?_
    refine gC_X11_table S hW lk_X11_12 dX11_restore_18 ?_
    refine lv_aload_n hx hb dX11_restore_21 rfl (lv_at hl 0 rfl) ?_
    refine gC_X11_picture S hW lk_X11_73 dX11_restore_22 ?_
    refine gC_X5_actions S hW lk_X11_357 dX11_restore_25 ?_
    refine pC_X0_count S hW lk_X11_176 dX11_restore_28 (fun σ1 H locs eσ1 hW => ?_)
    have h := lt_at eσ1 h
    refine lv_aload_n hx hb dX11_restore_31 rfl (lv_at hl 0 rfl) ?_
    refine lv_aload_n hx hb dX11_restore_32 rfl (lv_at hl 0 rfl) ?_
    refine gC_X11_picture S hW lk_X11_73 dX11_restore_33 ?_
    refine gC_X5_start S hW lk_X11_360 dX11_restore_36 ?_
    refine pC_X11_startSet S hW lk_X11_88 dX11_restore_39 (fun σ2 H locs eσ2 hW => ?_)
    have h := lt_at eσ2 h
    refine lv_aload_n hx hb dX11_restore_42 rfl (lv_at hl 0 rfl) ?_
    refine lv_aload_n hx hb dX11_restore_43 rfl (lv_at hl 0 rfl) ?_
    refine gC_X11_picture S hW lk_X11_73 dX11_restore_44 ?_
    refine gC_X5_goal S hW lk_X11_363 dX11_restore_47 ?_
    refine pC_X11_goalSet S hW lk_X11_91 dX11_restore_50 (fun σ3 H locs eσ3 hW => ?_)
    have h := lt_at eσ3 h
    refine lv_aload_n hx hb dX11_restore_53 rfl (lv_at hl 0 rfl) ?_
    refine lv_aload_n hx hb dX11_restore_54 rfl (lv_at hl 0 rfl) ?_
    refine gC_X11_picture S hW lk_X11_73 dX11_restore_55 ?_
    refine gC_X5_now S hW lk_X11_366 dX11_restore_58 ?_
    refine pC_X11_nowState S hW lk_X11_94 dX11_restore_61 (fun σ4 H locs eσ4 hW => ?_)
    have h := lt_at eσ4 h
    refine lv_aload_n hx hb dX11_restore_64 rfl (lv_at hl 0 rfl) ?_
    refine lv_aload_n hx hb dX11_restore_65 rfl (lv_at hl 0 rfl) ?_
    refine gC_X11_picture S hW lk_X11_73 dX11_restore_66 ?_
    refine gC_X5_seed S hW lk_X11_369 dX11_restore_69 ?_
    refine pC_X11_seedValue S hW lk_X11_97 dX11_restore_72 (fun σ5 H locs eσ5 hW => ?_)
    have h := lt_at eσ5 h
    refine lv_iconst (v := 0) hx hb dX11_restore_75 (by decide) ?_
    refine lv_istore_n (lv' := [(1, .int 0), (0, .ref (A 0))]) hx hb dX11_restore_76 rfl hl (by decide) rfl (fun ls hl => ?_)
    have hL77 : ∀  (K : SC → Option (Int32 × SC)), (∀ (σ : SC) (H : Heap) (locs : List Loc) (ls : Array Slot), WS G B s (wC G A σ) H locs → lv_has ls 2 [(0, .ref (A 0))] → K σ = some (r0, σ0) → W p l e rmX11_restore s m args below meth c H locs 0 0 Q (F0 m 130 ls [])) → ∀ (k : Nat) (σ : SC) (y1 : Int32)  (H : Heap) (locs : List Loc) (ls : Array Slot), WS G B s (wC G A σ) H locs → lv_has ls 2 [(0, .ref (A 0)), (1, .int y1)] → LX11_restore_77 K k σ y1 = some (r0, σ0) → W p l e rmX11_restore s m args below meth c H locs 0 0 Q (F0 m 77 ls []) := by
      intro  K hK k
      induction k with
      | zero => intro σ y1 H locs ls hW hl h; rw [LX11_restore_77] at h; cases h
      | succ k ih =>
        intro σ y1 H locs ls hW hl h
        rw [LX11_restore_77] at h
        refine lv_iload_n hx hb dX11_restore_77 rfl (lv_at hl 1 rfl) ?_
        refine lv_bipush (v := 8) hx hb dX11_restore_78 (by decide) ?_
        refine bc_ge (tgt := 130) hx hb h dX11_restore_80 (by decide) (fun _ h => ?_) (fun _ h => ?_)
        · exact hK σ _ _ _ hW (lv_sub hl [0] rfl) h
        · refine lv_aload_n hx hb dX11_restore_83 rfl (lv_at hl 0 rfl) ?_
          refine gC_X11_shelves S hW lk_X11_18 dX11_restore_84 ?_
          refine lv_iload_n hx hb dX11_restore_87 rfl (lv_at hl 1 rfl) ?_
          refine aC_shelf S hW h dX11_restore_88 (fun j6 hj6 h => ?_)
          refine back_i (rest := []) hW (run_V S hW (ct_X8_hasAction l G A σ _ j6 hj6 rfl) mi_X8_hasAction lk_X11_372 (eC_sh G A σ hj6) rfl rfl rfl hl (Nat.le_of_ble_eq_true rfl) dX11_restore_89 ⟨Nat.le_of_ble_eq_true rfl, Nat.le_of_ble_eq_true rfl⟩ rfl rfl) (fun H locs hW => ?_)
          refine bz_eq (tgt := 124) hx hb h dX11_restore_92 (by decide) (fun _ h => ?_) (fun _ h => ?_)
          · refine w_iinc (lv' := [(0, .ref (A 0))]) hx hb dX11_restore_124 hl (k := 1) rfl (by decide) (by decide) rfl h (fun v7 ls hl h => ?_)
            refine lv_goto (tgt := 77) hx hb dX11_restore_127 (by decide) ?_
            exact ih σ v7 _ _ _ hW (lv_sub hl [1, 0] rfl) h
          · refine lv_aload_n hx hb dX11_restore_95 rfl (lv_at hl 0 rfl) ?_
            refine gC_X11_table S hW lk_X11_12 dX11_restore_96 ?_
            refine lv_aload_n hx hb dX11_restore_99 rfl (lv_at hl 0 rfl) ?_
            refine gC_X11_shelves S hW lk_X11_18 dX11_restore_100 ?_
            refine lv_iload_n hx hb dX11_restore_103 rfl (lv_at hl 1 rfl) ?_
            refine aC_shelf S hW h dX11_restore_104 (fun j8 hj8 h => ?_)
            refine gC_X8_content hj8 S hW lk_X11_155 dX11_restore_105 ?_
            refine back_i (rest := []) hW (run_V S hW (ct_X0_has l G A σ _ (ga σ 20 j8) rfl) mi_X0_has lk_X11_148 (eC_1 G A σ) rfl rfl rfl hl (Nat.le_of_ble_eq_true rfl) dX11_restore_108 ⟨Nat.le_of_ble_eq_true rfl, Nat.le_of_ble_eq_true rfl⟩ rfl rfl) (fun H locs hW => ?_)
            refine bz_ne (tgt := 124) hx hb h dX11_restore_111 (by decide) (fun _ h => ?_) (fun _ h => ?_)
            · refine lv_aload_n hx hb dX11_restore_114 rfl (lv_at hl 0 rfl) ?_
              refine gC_X11_shelves S hW lk_X11_18 dX11_restore_115 ?_
              refine lv_iload_n hx hb dX11_restore_118 rfl (lv_at hl 1 rfl) ?_
              refine aC_shelf S hW h dX11_restore_119 (fun j10 hj10 h => ?_)
              refine lv_iconst (v := (-1)) hx hb dX11_restore_120 (by decide) ?_
              obtain ⟨σ12, h11, h⟩ := bd_o h
              refine back_v (rest := []) hW (run_V S hW (ct_X8_holdAction l G A σ _ j10 (-1) hj10 h11) mi_X8_holdAction lk_X11_151 (eC_sh G A σ hj10) rfl rfl rfl hl (Nat.le_of_ble_eq_true rfl) dX11_restore_121 ⟨Nat.le_of_ble_eq_true rfl, Nat.le_of_ble_eq_true rfl⟩ rfl rfl) (fun H locs hW => ?_)
              refine w_iinc (lv' := [(0, .ref (A 0))]) hx hb dX11_restore_124 hl (k := 1) rfl (by decide) (by decide) rfl h (fun v13 ls hl h => ?_)
              refine lv_goto (tgt := 77) hx hb dX11_restore_127 (by decide) ?_
              exact ih σ12 v13 _ _ _ hW (lv_sub hl [1, 0] rfl) h
            · refine w_iinc (lv' := [(0, .ref (A 0))]) hx hb dX11_restore_124 hl (k := 1) rfl (by decide) (by decide) rfl h (fun v9 ls hl h => ?_)
              refine lv_goto (tgt := 77) hx hb dX11_restore_127 (by decide) ?_
              exact ih σ v9 _ _ _ hW (lv_sub hl [1, 0] rfl) h
    refine hL77  _ (fun σ14 H locs ls hW hl h => ?_) n σ5 0 _ _ _ hW (lv_sub hl [1, 0] rfl) h
    refine lv_aload_n hx hb dX11_restore_130 rfl (lv_at hl 0 rfl) ?_
    obtain ⟨σ16, h15, h⟩ := bd_o h
    refine back_v (rest := []) hW (run_V S hW (ct_X11_forgetSearch l G A σ14 _ h15) mi_X11_forgetSearch lk_X11_183 (eC_0 G A σ14) rfl rfl rfl hl (Nat.le_of_ble_eq_true rfl) dX11_restore_131 ⟨Nat.le_of_ble_eq_true rfl, Nat.le_of_ble_eq_true rfl⟩ rfl rfl) (fun H locs hW => ?_)
    refine lv_aload_n hx hb dX11_restore_134 rfl (lv_at hl 0 rfl) ?_
    refine gC_X11_table S hW lk_X11_12 dX11_restore_135 ?_
    refine gC_X0_count S hW lk_X11_176 dX11_restore_138 ?_
    exact ret_is (wf := wC G A) hret h rfl hW dX11_restore_141
def rmX11_status : Room := { frames := 1, cells := 0, slots := 0, locals := 22 }
def f_X11_status (n : Nat) (σ : SC) (a1 : Int32) : Option Int32 := jn (fun (_ : Unit) => if a1 = 0 then some (gi σ 6) else if a1 = 1 then some (gi σ 1) else if a1 = 2 then some (gi σ 2) else if a1 = 3 then some (gi σ 3) else if a1 = 4 then some (gi σ 4) else if a1 = 5 then bd (f_X0_countMacros n σ) (fun v3 => some v3) else if a1 = 6 then some (gi σ 0) else some (-1)) (fun J1 => if a1 < 11 then J1 () else if 17 < a1 then J1 () else ld (ga σ 17) 7 (a1 - 11) (fun v4 => some v4))
theorem mi_X11_status : MI yX11_status cX11_status 2 (some .int) 1 := ⟨im_X11_status, se_X11_status, in_X11, co_X11_status, by decide, by decide, by decide +kernel⟩
set_option maxRecDepth 100000 in
set_option maxHeartbeats 4000000 in
theorem ct_X11_status (l : Launch) (n : Nat) (G : EN) (A : Nat → Nat) (σ : SC) (sz : Nat) (a1 : Int32) {r0 : Int32} (h : f_X11_status n σ a1 = some r0) : CT l yX11_status cX11_status 2 (some .int) rmX11_status G sz [.ref (A 0), .int a1] (wC G A σ) (QI G (va_A (wC G A σ) sz) r0 (wC G A σ)) := by
  unfold f_X11_status at h
  refine CI.intro (lv := [(0, .ref (A 0)), (1, .int a1)]) (by decide) (Nat.le_of_ble_eq_true rfl) rfl ?_
  intro p e s m args below meth c Q B S hret H locs ls hW hl
  have hx := S.1
  have hb := S.2.1
  refine lv_iload_n hx hb dX11_status_0 rfl (lv_at hl 1 rfl) ?_
  refine lv_bipush (v := 11) hx hb dX11_status_1 (by decide) ?_
  obtain ⟨J1, eJ1, h⟩ := jn_o h
  have hJ1 : ∀   (H : Heap) (locs : List Loc) (ls : Array Slot), WS G B s (wC G A σ) H locs → lv_has ls 2 [(0, .ref (A 0)), (1, .int a1)] → J1 () = some r0 → W p l e rmX11_status s m args below meth c H locs 0 0 Q (F0 m 22 ls []) := by
    subst eJ1
    intro  H locs ls hW hl h
    refine lv_iload_n hx hb dX11_status_22 rfl (lv_at hl 1 rfl) ?_
    refine b_if h (fun hs23_0 h => ?_) (fun hs23_0 h => ?_)
    · refine lv_tableIn (tgt := 64) (off := 41) hx hb dX11_status_23 (by rw [hs23_0]; decide) (by rw [hs23_0]; decide) (by rw [hs23_0]; rfl) (by decide) ?_
      refine lv_aload_n hx hb dX11_status_64 rfl (lv_at hl 0 rfl) ?_
      refine gC_X11_table S hW lk_X11_12 dX11_status_65 ?_
      refine gC_X0_count S hW lk_X11_176 dX11_status_68 ?_
      exact hret H locs _ ls _ (Option.some.inj h) rfl hW dX11_status_71
    refine b_if h (fun hs23_1 h => ?_) (fun hs23_1 h => ?_)
    · refine lv_tableIn (tgt := 72) (off := 49) hx hb dX11_status_23 (by rw [hs23_1]; decide) (by rw [hs23_1]; decide) (by rw [hs23_1]; rfl) (by decide) ?_
      refine lv_aload_n hx hb dX11_status_72 rfl (lv_at hl 0 rfl) ?_
      refine gC_X11_startSet S hW lk_X11_88 dX11_status_73 ?_
      exact hret H locs _ ls _ (Option.some.inj h) rfl hW dX11_status_76
    refine b_if h (fun hs23_2 h => ?_) (fun hs23_2 h => ?_)
    · refine lv_tableIn (tgt := 77) (off := 54) hx hb dX11_status_23 (by rw [hs23_2]; decide) (by rw [hs23_2]; decide) (by rw [hs23_2]; rfl) (by decide) ?_
      refine lv_aload_n hx hb dX11_status_77 rfl (lv_at hl 0 rfl) ?_
      refine gC_X11_goalSet S hW lk_X11_91 dX11_status_78 ?_
      exact hret H locs _ ls _ (Option.some.inj h) rfl hW dX11_status_81
    refine b_if h (fun hs23_3 h => ?_) (fun hs23_3 h => ?_)
    · refine lv_tableIn (tgt := 82) (off := 59) hx hb dX11_status_23 (by rw [hs23_3]; decide) (by rw [hs23_3]; decide) (by rw [hs23_3]; rfl) (by decide) ?_
      refine lv_aload_n hx hb dX11_status_82 rfl (lv_at hl 0 rfl) ?_
      refine gC_X11_nowState S hW lk_X11_94 dX11_status_83 ?_
      exact hret H locs _ ls _ (Option.some.inj h) rfl hW dX11_status_86
    refine b_if h (fun hs23_4 h => ?_) (fun hs23_4 h => ?_)
    · refine lv_tableIn (tgt := 87) (off := 64) hx hb dX11_status_23 (by rw [hs23_4]; decide) (by rw [hs23_4]; decide) (by rw [hs23_4]; rfl) (by decide) ?_
      refine lv_aload_n hx hb dX11_status_87 rfl (lv_at hl 0 rfl) ?_
      refine gC_X11_seedValue S hW lk_X11_97 dX11_status_88 ?_
      exact hret H locs _ ls _ (Option.some.inj h) rfl hW dX11_status_91
    refine b_if h (fun hs23_5 h => ?_) (fun hs23_5 h => ?_)
    · refine lv_tableIn (tgt := 92) (off := 69) hx hb dX11_status_23 (by rw [hs23_5]; decide) (by rw [hs23_5]; decide) (by rw [hs23_5]; rfl) (by decide) ?_
      refine lv_aload_n hx hb dX11_status_92 rfl (lv_at hl 0 rfl) ?_
      refine gC_X11_table S hW lk_X11_12 dX11_status_93 ?_
      obtain ⟨v3, h2, h⟩ := bd_o h
      refine back_i (rest := []) hW (run_V S hW (ct_X0_countMacros l n G A σ _ h2) mi_X0_countMacros lk_X11_375 (eC_1 G A σ) rfl rfl rfl hl (Nat.le_of_ble_eq_true rfl) dX11_status_96 ⟨Nat.le_of_ble_eq_true rfl, Nat.le_of_ble_eq_true rfl⟩ rfl rfl) (fun H locs hW => ?_)
      exact hret H locs _ ls _ (Option.some.inj h) rfl hW dX11_status_99
    refine b_if h (fun hs23_6 h => ?_) (fun hs23_6 h => ?_)
    · refine lv_tableIn (tgt := 100) (off := 77) hx hb dX11_status_23 (by rw [hs23_6]; decide) (by rw [hs23_6]; decide) (by rw [hs23_6]; rfl) (by decide) ?_
      refine lv_aload_n hx hb dX11_status_100 rfl (lv_at hl 0 rfl) ?_
      refine gC_X11_stepCount S hW lk_X11_84 dX11_status_101 ?_
      exact hret H locs _ ls _ (Option.some.inj h) rfl hW dX11_status_104
    refine lv_tableOut (tgt := 105) hx hb dX11_status_23 (sw_out 0 6 _ (fun k h1 h2 => by have := lv_neT hs23_0 (a := 0) (by decide) ; have := lv_neT hs23_1 (a := 1) (by decide) ; have := lv_neT hs23_2 (a := 2) (by decide) ; have := lv_neT hs23_3 (a := 3) (by decide) ; have := lv_neT hs23_4 (a := 4) (by decide) ; have := lv_neT hs23_5 (a := 5) (by decide) ; have := lv_neT hs23_6 (a := 6) (by decide); omega)) (by decide) ?_
    refine lv_iconst (v := (-1)) hx hb dX11_status_105 (by decide) ?_
    exact hret H locs _ ls _ (Option.some.inj h) rfl hW dX11_status_106
  clear eJ1
  refine bc_lt (tgt := 22) hx hb h dX11_status_3 (by decide) (fun _ h => ?_) (fun _ h => ?_)
  · exact hJ1  _ _ _ hW (hl) h
  · refine lv_iload_n hx hb dX11_status_6 rfl (lv_at hl 1 rfl) ?_
    refine lv_bipush (v := 17) hx hb dX11_status_7 (by decide) ?_
    refine bc_gt (tgt := 22) hx hb h dX11_status_9 (by decide) (fun _ h => ?_) (fun _ h => ?_)
    · exact hJ1  _ _ _ hW (hl) h
    · refine lv_aload_n hx hb dX11_status_12 rfl (lv_at hl 0 rfl) ?_
      refine gC_X11_refusals S hW lk_X11_77 dX11_status_13 ?_
      refine lv_iload_n hx hb dX11_status_16 rfl (lv_at hl 1 rfl) ?_
      refine lv_bipush (v := 11) hx hb dX11_status_17 (by decide) ?_
      refine lv_isub hx hb dX11_status_19 ?_
      refine aC_29 S hW h dX11_status_20 (fun v4 _ h => ?_)
      exact hret H locs _ ls _ (Option.some.inj h) rfl hW dX11_status_21
