def rmX9_peek : Room := { frames := 0, cells := 0, slots := 0, locals := 0 }
def f_X9_peek (σ : SC) : Option Int32 := if gt σ = 0 then some (-1) else dt (gt σ) (fun j3 => if (ga σ 19 j3) ≤ (gi σ 23) then some (-1) else if 160 ≤ (gi σ 23) then some (-1) else dt (gt σ) (fun j4 => ld (gl σ j4) 160 (gi σ 23) (fun v5 => some (v5.toInt32))))
theorem mi_X9_peek : MI yX9_peek cX9_peek 1 (some .int) 0 := ⟨im_X9_peek, se_X9_peek, in_X9, co_X9_peek, by decide, by decide, by decide +kernel⟩
set_option maxRecDepth 100000 in
set_option maxHeartbeats 4000000 in
theorem ct_X9_peek (l : Launch) (G : EN) (A : Nat → Nat) (σ : SC) (sz : Nat) {r0 : Int32} (h : f_X9_peek σ = some r0) : CT l yX9_peek cX9_peek 1 (some .int) rmX9_peek G sz [.ref (A 25)] (wC G A σ) (QI G (va_A (wC G A σ) sz) r0 (wC G A σ)) := by
  unfold f_X9_peek at h
  refine CI.intro (lv := [(0, .ref (A 25))]) (by decide) (Nat.le_of_ble_eq_true rfl) rfl ?_
  intro p e s m args below meth c Q B S hret H locs ls hW hl
  have hx := S.1
  have hb := S.2.1
  refine lv_aload_n hx hb dX9_peek_0 rfl (lv_at hl 0 rfl) ?_
  refine gC_X9_text S hW lk_X9_9 dX9_peek_1 ?_
  refine b_null (tgt := 47) hx hb h dX9_peek_4 (by decide) (fun _ h => ?_) (fun _ h => ?_)
  · refine lv_iconst (v := (-1)) hx hb dX9_peek_47 (by decide) ?_
    exact hret H locs _ ls _ (Option.some.inj h) rfl hW dX9_peek_48
  · refine lv_aload_n hx hb dX9_peek_7 rfl (lv_at hl 0 rfl) ?_
    refine gC_X9_at S hW lk_X9_15 dX9_peek_8 ?_
    refine lv_aload_n hx hb dX9_peek_11 rfl (lv_at hl 0 rfl) ?_
    refine gC_X9_text S hW lk_X9_9 dX9_peek_12 ?_
    obtain ⟨j3, hj3, ej3, h⟩ := dt_o h
    rw [ej3]
    refine W.eq (g2 := F0 m 15 ls (.ref (A (31 + 2 * j3)) :: .int (gi σ 23) :: [])) rfl ?_
    refine gC_X8_size hj3 S hW lk_X9_44 dX9_peek_15 ?_
    refine bc_ge (tgt := 47) hx hb h dX9_peek_18 (by decide) (fun _ h => ?_) (fun _ h => ?_)
    · refine lv_iconst (v := (-1)) hx hb dX9_peek_47 (by decide) ?_
      exact hret H locs _ ls _ (Option.some.inj h) rfl hW dX9_peek_48
    · refine lv_aload_n hx hb dX9_peek_21 rfl (lv_at hl 0 rfl) ?_
      refine gC_X9_at S hW lk_X9_15 dX9_peek_22 ?_
      refine lv_sipush (v := 160) hx hb dX9_peek_25 (by decide) ?_
      refine bc_ge (tgt := 47) hx hb h dX9_peek_28 (by decide) (fun _ h => ?_) (fun _ h => ?_)
      · refine lv_iconst (v := (-1)) hx hb dX9_peek_47 (by decide) ?_
        exact hret H locs _ ls _ (Option.some.inj h) rfl hW dX9_peek_48
      · refine lv_aload_n hx hb dX9_peek_31 rfl (lv_at hl 0 rfl) ?_
        refine gC_X9_text S hW lk_X9_9 dX9_peek_32 ?_
        obtain ⟨j4, hj4, ej4, h⟩ := dt_o h
        rw [ej4]
        refine W.eq (g2 := F0 m 35 ls (.ref (A (31 + 2 * j4)) :: [])) rfl ?_
        refine gC_X8_elements hj4 S hW lk_X9_109 dX9_peek_35 ?_
        refine lv_aload_n hx hb dX9_peek_38 rfl (lv_at hl 0 rfl) ?_
        refine gC_X9_at S hW lk_X9_15 dX9_peek_39 ?_
        refine aC_el hj4 S hW h dX9_peek_42 (fun v5 _ h => ?_)
        refine lv_l2i hx hb dX9_peek_43 rfl ?_
        refine lv_goto (tgt := 48) hx hb dX9_peek_44 (by decide) ?_
        exact hret H locs _ ls _ (Option.some.inj h) rfl hW dX9_peek_48
def rmX9_fail : Room := { frames := 0, cells := 0, slots := 0, locals := 0 }
def f_X9_fail (σ : SC) (a1 : Int32) : Option SC := if (gi σ 24) = (-1) then lt (si σ 24 a1) (fun σ1 => some σ1) else some σ
theorem mi_X9_fail : MI yX9_fail cX9_fail 2 none 1 := ⟨im_X9_fail, se_X9_fail, in_X9, co_X9_fail, by decide, by decide, by decide +kernel⟩
set_option maxRecDepth 100000 in
set_option maxHeartbeats 4000000 in
theorem ct_X9_fail (l : Launch) (G : EN) (A : Nat → Nat) (σ : SC) (sz : Nat) (a1 : Int32) {σ0 : SC} (h : f_X9_fail σ a1 = some σ0) : CT l yX9_fail cX9_fail 2 none rmX9_fail G sz [.ref (A 25), .int a1] (wC G A σ) (QV G (va_A (wC G A σ) sz) (wC G A σ0)) := by
  unfold f_X9_fail at h
  refine CV.intro (lv := [(0, .ref (A 25)), (1, .int a1)]) (by decide) (Nat.le_of_ble_eq_true rfl) rfl ?_
  intro p e s m args below meth c Q B S hret H locs ls hW hl
  have hx := S.1
  have hb := S.2.1
  refine lv_aload_n hx hb dX9_fail_0 rfl (lv_at hl 0 rfl) ?_
  refine gC_X9_faultAt S hW lk_X9_19 dX9_fail_1 ?_
  refine lv_iconst (v := (-1)) hx hb dX9_fail_4 (by decide) ?_
  refine bc_ne (tgt := 13) hx hb h dX9_fail_5 (by decide) (fun _ h => ?_) (fun _ h => ?_)
  · refine lv_aload_n hx hb dX9_fail_8 rfl (lv_at hl 0 rfl) ?_
    refine lv_iload_n hx hb dX9_fail_9 rfl (lv_at hl 1 rfl) ?_
    refine pC_X9_faultAt S hW lk_X9_19 dX9_fail_10 (fun σ1 H locs eσ1 hW => ?_)
    have h := lt_at eσ1 h
    exact ret_vs (wf := wC G A) hret h hW dX9_fail_13
  · exact ret_vs (wf := wC G A) hret h hW dX9_fail_13
def rmX9_expect : Room := { frames := 1, cells := 0, slots := 0, locals := 21 }
def f_X9_expect (σ : SC) (a1 : Int32) : Option SC := if (gi σ 24) = (-1) then bd (f_X9_peek σ) (fun v2 => if v2 = a1 then lt (si σ 23 ((gi σ 23) + 1)) (fun σ5 => some σ5) else bd (f_X9_fail σ (gi σ 23)) (fun σ4 => some σ4)) else some σ
theorem mi_X9_expect : MI yX9_expect cX9_expect 2 none 1 := ⟨im_X9_expect, se_X9_expect, in_X9, co_X9_expect, by decide, by decide, by decide +kernel⟩
set_option maxRecDepth 100000 in
set_option maxHeartbeats 4000000 in
theorem ct_X9_expect (l : Launch) (G : EN) (A : Nat → Nat) (σ : SC) (sz : Nat) (a1 : Int32) {σ0 : SC} (h : f_X9_expect σ a1 = some σ0) : CT l yX9_expect cX9_expect 2 none rmX9_expect G sz [.ref (A 25), .int a1] (wC G A σ) (QV G (va_A (wC G A σ) sz) (wC G A σ0)) := by
  unfold f_X9_expect at h
  refine CV.intro (lv := [(0, .ref (A 25)), (1, .int a1)]) (by decide) (Nat.le_of_ble_eq_true rfl) rfl ?_
  intro p e s m args below meth c Q B S hret H locs ls hW hl
  have hx := S.1
  have hb := S.2.1
  refine lv_aload_n hx hb dX9_expect_0 rfl (lv_at hl 0 rfl) ?_
  refine gC_X9_faultAt S hW lk_X9_19 dX9_expect_1 ?_
  refine lv_iconst (v := (-1)) hx hb dX9_expect_4 (by decide) ?_
  refine bc_eq (tgt := 9) hx hb h dX9_expect_5 (by decide) (fun _ h => ?_) (fun _ h => ?_)
  · refine lv_aload_n hx hb dX9_expect_9 rfl (lv_at hl 0 rfl) ?_
    obtain ⟨v2, h1, h⟩ := bd_o h
    refine back_i (rest := []) hW (run_V S hW (ct_X9_peek l G A σ _ h1) mi_X9_peek lk_X9_53 (eC_25 G A σ) rfl rfl rfl hl (Nat.le_of_ble_eq_true rfl) dX9_expect_10 ⟨Nat.le_of_ble_eq_true rfl, Nat.le_of_ble_eq_true rfl⟩ rfl rfl) (fun H locs hW => ?_)
    refine lv_iload_n hx hb dX9_expect_13 rfl (lv_at hl 1 rfl) ?_
    refine bc_ne (tgt := 30) hx hb h dX9_expect_14 (by decide) (fun _ h => ?_) (fun _ h => ?_)
    · refine lv_aload_n hx hb dX9_expect_17 rfl (lv_at hl 0 rfl) ?_
      refine lv_dup hx hb dX9_expect_18 rfl ?_
      refine gC_X9_at S hW lk_X9_15 dX9_expect_19 ?_
      refine lv_iconst (v := 1) hx hb dX9_expect_22 (by decide) ?_
      refine lv_iadd hx hb dX9_expect_23 ?_
      refine pC_X9_at S hW lk_X9_15 dX9_expect_24 (fun σ5 H locs eσ5 hW => ?_)
      have h := lt_at eσ5 h
      refine lv_goto (tgt := 38) hx hb dX9_expect_27 (by decide) ?_
      exact ret_vs (wf := wC G A) hret h hW dX9_expect_38
    · refine lv_aload_n hx hb dX9_expect_30 rfl (lv_at hl 0 rfl) ?_
      refine lv_aload_n hx hb dX9_expect_31 rfl (lv_at hl 0 rfl) ?_
      refine gC_X9_at S hW lk_X9_15 dX9_expect_32 ?_
      obtain ⟨σ4, h3, h⟩ := bd_o h
      refine back_v (rest := []) hW (run_V S hW (ct_X9_fail l G A σ _ (gi σ 23) h3) mi_X9_fail lk_X9_70 (eC_25 G A σ) rfl rfl rfl hl (Nat.le_of_ble_eq_true rfl) dX9_expect_35 ⟨Nat.le_of_ble_eq_true rfl, Nat.le_of_ble_eq_true rfl⟩ rfl rfl) (fun H locs hW => ?_)
      exact ret_vs (wf := wC G A) hret h hW dX9_expect_38
  · exact ret_vs (wf := wC G A) hret h hW dX9_expect_8
def rmX9_expectWord : Room := { frames := 12, cells := 0, slots := 0, locals := 400 }
def LX9_expectWord_2 (y1 : Nat) (K : SC → Option SC) : Nat → SC → Int32 → Option SC
  | 0, _, _ => none
  | k + 1, σ, y2 => if (sln y1) ≤ y2 then K σ else sc y1 y2 (fun v1 => bd (f_X9_expect σ v1) (fun σ3 => lt (y2 + 1) (fun v4 => LX9_expectWord_2 y1 K k σ3 v4)))
def f_X9_expectWord (n : Nat) (σ : SC) (j1 : Nat) : Option SC := LX9_expectWord_2 j1 (fun σ5 => some σ5) n σ 0
theorem mi_X9_expectWord : MI yX9_expectWord cX9_expectWord 3 none 1 := ⟨im_X9_expectWord, se_X9_expectWord, in_X9, co_X9_expectWord, by decide, by decide, by decide +kernel⟩
set_option maxRecDepth 100000 in
set_option maxHeartbeats 4000000 in
theorem ct_X9_expectWord (l : Launch) (n : Nat) (G : EN) (A : Nat → Nat) (σ : SC) (sz : Nat) (j1 : Nat) (hj1 : j1 < 8) {σ0 : SC} (h : f_X9_expectWord n σ j1 = some σ0) : CT l yX9_expectWord cX9_expectWord 3 none rmX9_expectWord G sz [.ref (A 25), .ref (G.2.2.1 j1)] (wC G A σ) (QV G (va_A (wC G A σ) sz) (wC G A σ0)) := by
  unfold f_X9_expectWord at h
  refine CV.intro (lv := [(0, .ref (A 25)), (1, .ref (G.2.2.1 j1))]) (by decide) (Nat.le_of_ble_eq_true rfl) rfl ?_
  intro p e s m args below meth c Q B S hret H locs ls hW hl
  have hx := S.1
  have hb := S.2.1
  refine lv_iconst (v := 0) hx hb dX9_expectWord_0 (by decide) ?_
  refine lv_istore_n (lv' := [(2, .int 0), (0, .ref (A 25)), (1, .ref (G.2.2.1 j1))]) hx hb dX9_expectWord_1 rfl hl (by decide) rfl (fun ls hl => ?_)
  have hL2 : ∀ (y1 : Nat) (hy1 : y1 < 8) (K : SC → Option SC), (∀ (σ : SC) (H : Heap) (locs : List Loc) (ls : Array Slot), WS G B s (wC G A σ) H locs → lv_has ls 3 [] → K σ = some σ0 → W p l e rmX9_expectWord s m args below meth c H locs 0 0 Q (F0 m 25 ls [])) → ∀ (k : Nat) (σ : SC) (y2 : Int32)  (H : Heap) (locs : List Loc) (ls : Array Slot), WS G B s (wC G A σ) H locs → lv_has ls 3 [(0, .ref (A 25)), (1, .ref (G.2.2.1 y1)), (2, .int y2)] → LX9_expectWord_2 y1 K k σ y2 = some σ0 → W p l e rmX9_expectWord s m args below meth c H locs 0 0 Q (F0 m 2 ls []) := by
    intro y1 hy1 K hK k
    induction k with
    | zero => intro σ y2 H locs ls hW hl h; rw [LX9_expectWord_2] at h; cases h
    | succ k ih =>
      intro σ y2 H locs ls hW hl h
      rw [LX9_expectWord_2] at h
      refine lv_iload_n hx hb dX9_expectWord_2 rfl (lv_at hl 2 rfl) ?_
      refine lv_aload_n hx hb dX9_expectWord_3 rfl (lv_at hl 1 rfl) ?_
      refine back_i (rest := [.int y2]) hW (run_Str S hW hl (ct_length l G _ hy1) mi_length lk_X9_100 (Nat.le_of_ble_eq_true rfl) dX9_expectWord_4 ⟨Nat.le_of_ble_eq_true rfl, Nat.le_of_ble_eq_true rfl⟩ hy1 rfl rfl rfl rfl rfl) (fun H locs hW => ?_)
      refine bc_ge (tgt := 25) hx hb h dX9_expectWord_7 (by decide) (fun _ h => ?_) (fun _ h => ?_)
      · exact hK σ _ _ _ hW (lv_sub hl [] rfl) h
      · refine lv_aload_n hx hb dX9_expectWord_10 rfl (lv_at hl 0 rfl) ?_
        refine lv_aload_n hx hb dX9_expectWord_11 rfl (lv_at hl 1 rfl) ?_
        refine lv_iload_n hx hb dX9_expectWord_12 rfl (lv_at hl 2 rfl) ?_
        obtain ⟨hk, v1, ev1, h⟩ := sc_o h
        refine back_i (rest := [.ref (A 25)]) hW (run_Str S hW hl (ct_charAt l G _ hy1 hk) mi_charAt lk_X9_105 (Nat.le_of_ble_eq_true rfl) dX9_expectWord_13 ⟨Nat.le_of_ble_eq_true rfl, Nat.le_of_ble_eq_true rfl⟩ hy1 rfl rfl rfl rfl rfl) (fun H locs hW => ?_)
        rw [← ev1]
        obtain ⟨σ3, h2, h⟩ := bd_o h
        refine back_v (rest := []) hW (run_V S hW (ct_X9_expect l G A σ _ v1 h2) mi_X9_expect lk_X9_49 (eC_25 G A σ) rfl rfl rfl hl (Nat.le_of_ble_eq_true rfl) dX9_expectWord_16 ⟨Nat.le_of_ble_eq_true rfl, Nat.le_of_ble_eq_true rfl⟩ rfl rfl) (fun H locs hW => ?_)
        refine w_iinc (lv' := [(0, .ref (A 25)), (1, .ref (G.2.2.1 y1))]) hx hb dX9_expectWord_19 hl (k := 2) rfl (by decide) (by decide) rfl h (fun v4 ls hl h => ?_)
        refine lv_goto (tgt := 2) hx hb dX9_expectWord_22 (by decide) ?_
        exact ih σ3 v4 _ _ _ hW (lv_sub hl [1, 2, 0] rfl) h
  refine hL2 j1 hj1 _ (fun σ5 H locs ls hW hl h => ?_) n σ 0 _ _ _ hW (lv_sub hl [1, 2, 0] rfl) h
  exact ret_vs (wf := wC G A) hret h hW dX9_expectWord_25
def rmX9_isDigit : Room := { frames := 0, cells := 0, slots := 0, locals := 0 }
def f_X9_isDigit (a0 : Int32) : Int32 := if a0 < 48 then 0 else if 57 < a0 then 0 else 1
theorem z_X9_isDigit (a0 : Int32) : f_X9_isDigit a0 = 0 ∨ f_X9_isDigit a0 = 1 := by
  unfold f_X9_isDigit
  repeat' (first | split | exact Or.inl rfl | exact Or.inr rfl)
theorem ms_X9_isDigit : MSt yX9_isDigit cX9_isDigit 1 (some .boolean) 1 := ⟨sm_X9_isDigit, in_X9, co_X9_isDigit, by decide, by decide, by decide +kernel⟩
set_option maxRecDepth 100000 in
set_option maxHeartbeats 4000000 in
theorem ct_X9_isDigit (l : Launch) (G : EN) (A : Nat → Nat) (σ : SC) (sz : Nat) (a0 : Int32) {r0 : Int32} (h : f_X9_isDigit a0 = r0) : CT l yX9_isDigit cX9_isDigit 1 (some .boolean) rmX9_isDigit G sz [.int a0] (wC G A σ) (QI G (va_A (wC G A σ) sz) r0 (wC G A σ)) := by
  unfold f_X9_isDigit at h
  refine CI.intro (lv := [(0, .int a0)]) (by decide) (Nat.le_of_ble_eq_true rfl) rfl ?_
  intro p e s m args below meth c Q B S hret H locs ls hW hl
  have hx := S.1
  have hb := S.2.1
  refine lv_iload_n hx hb dX9_isDigit_0 rfl (lv_at hl 0 rfl) ?_
  refine lv_bipush (v := 48) hx hb dX9_isDigit_1 (by decide) ?_
  refine bc_lt (tgt := 16) hx hb h dX9_isDigit_3 (by decide) (fun _ h => ?_) (fun _ h => ?_)
  · refine lv_iconst (v := 0) hx hb dX9_isDigit_16 (by decide) ?_
    exact hret H locs _ ls _ h (nar_z (Or.inl rfl)) hW dX9_isDigit_17
  · refine lv_iload_n hx hb dX9_isDigit_6 rfl (lv_at hl 0 rfl) ?_
    refine lv_bipush (v := 57) hx hb dX9_isDigit_7 (by decide) ?_
    refine bc_gt (tgt := 16) hx hb h dX9_isDigit_9 (by decide) (fun _ h => ?_) (fun _ h => ?_)
    · refine lv_iconst (v := 0) hx hb dX9_isDigit_16 (by decide) ?_
      exact hret H locs _ ls _ h (nar_z (Or.inl rfl)) hW dX9_isDigit_17
    · refine lv_iconst (v := 1) hx hb dX9_isDigit_12 (by decide) ?_
      refine lv_goto (tgt := 17) hx hb dX9_isDigit_13 (by decide) ?_
      exact hret H locs _ ls _ h (nar_z (Or.inr rfl)) hW dX9_isDigit_17
def rmX9_readNumber : Room := { frames := 1, cells := 0, slots := 0, locals := 21 }
def f_X9_readNumber (σ : SC) (a1 : Int32) (a2 : Int32) : Option (Int32 × SC) := if (gi σ 24) = (-1) then lt (gi σ 23) (fun v1 => bd (f_X9_peek σ) (fun v3 => if (f_X9_isDigit v3) = 0 then bd (f_X9_fail σ v1) (fun σ22 => some (0, σ22)) else bd (f_X9_peek σ) (fun v5 => lt (v5 - 48) (fun v6 => lt (si σ 23 ((gi σ 23) + 1)) (fun σ7 => bd (f_X9_peek σ7) (fun v9 => jn (fun (σ11 : SC) (u12 : Int32) => if u12 < a1 then bd (f_X9_fail σ11 v1) (fun σ14 => some (0, σ14)) else if u12 ≤ a2 then some (u12, σ11) else bd (f_X9_fail σ11 v1) (fun σ16 => some (0, σ16))) (fun J10 => if (f_X9_isDigit v9) = 0 then J10 σ7 v6 else bd (f_X9_peek σ7) (fun v18 => lt (((v6 * 10) + v18) - 48) (fun v19 => lt (si σ7 23 ((gi σ7 23) + 1)) (fun σ20 => J10 σ20 v19)))))))))) else some (0, σ)
theorem mi_X9_readNumber : MI yX9_readNumber cX9_readNumber 5 (some .int) 2 := ⟨im_X9_readNumber, se_X9_readNumber, in_X9, co_X9_readNumber, by decide, by decide, by decide +kernel⟩
set_option maxRecDepth 100000 in
set_option maxHeartbeats 4000000 in
theorem ct_X9_readNumber (l : Launch) (G : EN) (A : Nat → Nat) (σ : SC) (sz : Nat) (a1 : Int32) (a2 : Int32) {r0 : Int32} {σ0 : SC} (h : f_X9_readNumber σ a1 a2 = some (r0, σ0)) : CT l yX9_readNumber cX9_readNumber 5 (some .int) rmX9_readNumber G sz [.ref (A 25), .int a1, .int a2] (wC G A σ) (QI G (va_A (wC G A σ) sz) r0 (wC G A σ0)) := by
  unfold f_X9_readNumber at h
  refine CI.intro (lv := [(0, .ref (A 25)), (1, .int a1), (2, .int a2)]) (by decide) (Nat.le_of_ble_eq_true rfl) rfl ?_
  intro p e s m args below meth c Q B S hret H locs ls hW hl
  have hx := S.1
  have hb := S.2.1
  refine lv_aload_n hx hb dX9_readNumber_0 rfl (lv_at hl 0 rfl) ?_
  refine gC_X9_faultAt S hW lk_X9_19 dX9_readNumber_1 ?_
  refine lv_iconst (v := (-1)) hx hb dX9_readNumber_4 (by decide) ?_
  refine bc_eq (tgt := 10) hx hb h dX9_readNumber_5 (by decide) (fun _ h => ?_) (fun _ h => ?_)
  · refine lv_aload_n hx hb dX9_readNumber_10 rfl (lv_at hl 0 rfl) ?_
    refine gC_X9_at S hW lk_X9_15 dX9_readNumber_11 ?_
    refine nm_i h (fun v1 h => ?_)
    refine lv_istore_n (lv' := [(3, .int v1), (0, .ref (A 25)), (1, .int a1), (2, .int a2)]) hx hb dX9_readNumber_14 rfl hl (by decide) rfl (fun ls hl => ?_)
    refine lv_aload_n hx hb dX9_readNumber_15 rfl (lv_at hl 1 rfl) ?_
    obtain ⟨v3, h2, h⟩ := bd_o h
    refine back_i (rest := []) hW (run_V S hW (ct_X9_peek l G A σ _ h2) mi_X9_peek lk_X9_53 (eC_25 G A σ) rfl rfl rfl hl (Nat.le_of_ble_eq_true rfl) dX9_readNumber_16 ⟨Nat.le_of_ble_eq_true rfl, Nat.le_of_ble_eq_true rfl⟩ rfl rfl) (fun H locs hW => ?_)
    refine back_i (rest := []) hW (run_S S hW (ct_X9_isDigit l G A σ _ v3 rfl) ms_X9_isDigit lk_X9_96 rfl rfl hl (Nat.le_of_ble_eq_true rfl) dX9_readNumber_19 ⟨Nat.le_of_ble_eq_true rfl, Nat.le_of_ble_eq_true rfl⟩ rfl rfl) (fun H locs hW => ?_)
    refine bz_ne (tgt := 32) hx hb h dX9_readNumber_22 (by decide) (fun _ h => ?_) (fun _ h => ?_)
    · refine lv_aload_n hx hb dX9_readNumber_25 rfl (lv_at hl 1 rfl) ?_
      refine lv_iload_n hx hb dX9_readNumber_26 rfl (lv_at hl 0 rfl) ?_
      obtain ⟨σ22, h21, h⟩ := bd_o h
      refine back_v (rest := []) hW (run_V S hW (ct_X9_fail l G A σ _ v1 h21) mi_X9_fail lk_X9_70 (eC_25 G A σ) rfl rfl rfl hl (Nat.le_of_ble_eq_true rfl) dX9_readNumber_27 ⟨Nat.le_of_ble_eq_true rfl, Nat.le_of_ble_eq_true rfl⟩ rfl rfl) (fun H locs hW => ?_)
      refine lv_iconst (v := 0) hx hb dX9_readNumber_30 (by decide) ?_
      exact ret_is (wf := wC G A) hret h rfl hW dX9_readNumber_31
    · refine lv_aload_n hx hb dX9_readNumber_32 rfl (lv_at hl 1 rfl) ?_
      obtain ⟨v5, h4, h⟩ := bd_o h
      refine back_i (rest := []) hW (run_V S hW (ct_X9_peek l G A σ _ h4) mi_X9_peek lk_X9_53 (eC_25 G A σ) rfl rfl rfl hl (Nat.le_of_ble_eq_true rfl) dX9_readNumber_33 ⟨Nat.le_of_ble_eq_true rfl, Nat.le_of_ble_eq_true rfl⟩ rfl rfl) (fun H locs hW => ?_)
      refine lv_bipush (v := 48) hx hb dX9_readNumber_36 (by decide) ?_
      refine lv_isub hx hb dX9_readNumber_38 ?_
      refine nm_i h (fun v6 h => ?_)
      refine lv_istore (lv' := [(4, .int v6), (3, .int v1), (0, .ref (A 25)), (1, .int a1), (2, .int a2)]) hx hb dX9_readNumber_39 hl (by decide) rfl (fun ls hl => ?_)
      refine lv_aload_n hx hb dX9_readNumber_41 rfl (lv_at hl 2 rfl) ?_
      refine lv_dup hx hb dX9_readNumber_42 rfl ?_
      refine gC_X9_at S hW lk_X9_15 dX9_readNumber_43 ?_
      refine lv_iconst (v := 1) hx hb dX9_readNumber_46 (by decide) ?_
      refine lv_iadd hx hb dX9_readNumber_47 ?_
      refine pC_X9_at S hW lk_X9_15 dX9_readNumber_48 (fun σ7 H locs eσ7 hW => ?_)
      have h := lt_at eσ7 h
      refine lv_aload_n hx hb dX9_readNumber_51 rfl (lv_at hl 2 rfl) ?_
      obtain ⟨v9, h8, h⟩ := bd_o h
      refine back_i (rest := []) hW (run_V S hW (ct_X9_peek l G A σ7 _ h8) mi_X9_peek lk_X9_53 (eC_25 G A σ7) rfl rfl rfl hl (Nat.le_of_ble_eq_true rfl) dX9_readNumber_52 ⟨Nat.le_of_ble_eq_true rfl, Nat.le_of_ble_eq_true rfl⟩ rfl rfl) (fun H locs hW => ?_)
      refine back_i (rest := []) hW (run_S S hW (ct_X9_isDigit l G A σ7 _ v9 rfl) ms_X9_isDigit lk_X9_96 rfl rfl hl (Nat.le_of_ble_eq_true rfl) dX9_readNumber_55 ⟨Nat.le_of_ble_eq_true rfl, Nat.le_of_ble_eq_true rfl⟩ rfl rfl) (fun H locs hW => ?_)
      obtain ⟨J10, eJ10, h⟩ := jn_o h
      have hJ10 : ∀ (σ11 : SC) (u12 : Int32)  (H : Heap) (locs : List Loc) (ls : Array Slot), WS G B s (wC G A σ11) H locs → lv_has ls 5 [(0, .ref (A 25)), (1, .int a1), (2, .int a2), (3, .int v1), (4, .int u12)] → J10 σ11 u12 = some (r0, σ0) → W p l e rmX9_readNumber s m args below meth c H locs 0 0 Q (F0 m 86 ls []) := by
        subst eJ10
        intro σ11 u12 H locs ls hW hl h
        refine lv_iload hx hb dX9_readNumber_86 (lv_at hl 4 rfl) ?_
        refine lv_iload_n hx hb dX9_readNumber_88 rfl (lv_at hl 1 rfl) ?_
        refine bc_lt (tgt := 98) hx hb h dX9_readNumber_89 (by decide) (fun _ h => ?_) (fun _ h => ?_)
        · refine lv_aload_n hx hb dX9_readNumber_98 rfl (lv_at hl 0 rfl) ?_
          refine lv_iload_n hx hb dX9_readNumber_99 rfl (lv_at hl 3 rfl) ?_
          obtain ⟨σ14, h13, h⟩ := bd_o h
          refine back_v (rest := []) hW (run_V S hW (ct_X9_fail l G A σ11 _ v1 h13) mi_X9_fail lk_X9_70 (eC_25 G A σ11) rfl rfl rfl hl (Nat.le_of_ble_eq_true rfl) dX9_readNumber_100 ⟨Nat.le_of_ble_eq_true rfl, Nat.le_of_ble_eq_true rfl⟩ rfl rfl) (fun H locs hW => ?_)
          refine lv_iconst (v := 0) hx hb dX9_readNumber_103 (by decide) ?_
          exact ret_is (wf := wC G A) hret h rfl hW dX9_readNumber_104
        · refine lv_iload hx hb dX9_readNumber_92 (lv_at hl 4 rfl) ?_
          refine lv_iload_n hx hb dX9_readNumber_94 rfl (lv_at hl 2 rfl) ?_
          refine bc_le (tgt := 105) hx hb h dX9_readNumber_95 (by decide) (fun _ h => ?_) (fun _ h => ?_)
          · refine lv_iload hx hb dX9_readNumber_105 (lv_at hl 4 rfl) ?_
            exact ret_is (wf := wC G A) hret h rfl hW dX9_readNumber_107
          · refine lv_aload_n hx hb dX9_readNumber_98 rfl (lv_at hl 0 rfl) ?_
            refine lv_iload_n hx hb dX9_readNumber_99 rfl (lv_at hl 3 rfl) ?_
            obtain ⟨σ16, h15, h⟩ := bd_o h
            refine back_v (rest := []) hW (run_V S hW (ct_X9_fail l G A σ11 _ v1 h15) mi_X9_fail lk_X9_70 (eC_25 G A σ11) rfl rfl rfl hl (Nat.le_of_ble_eq_true rfl) dX9_readNumber_100 ⟨Nat.le_of_ble_eq_true rfl, Nat.le_of_ble_eq_true rfl⟩ rfl rfl) (fun H locs hW => ?_)
            refine lv_iconst (v := 0) hx hb dX9_readNumber_103 (by decide) ?_
            exact ret_is (wf := wC G A) hret h rfl hW dX9_readNumber_104
      clear eJ10
      refine bz_eq (tgt := 86) hx hb h dX9_readNumber_58 (by decide) (fun _ h => ?_) (fun _ h => ?_)
      · exact hJ10 σ7 v6 _ _ _ hW (lv_sub hl [2, 3, 4, 1, 0] rfl) h
      · refine lv_iload hx hb dX9_readNumber_61 (lv_at hl 0 rfl) ?_
        refine lv_bipush (v := 10) hx hb dX9_readNumber_63 (by decide) ?_
        refine lv_imul hx hb dX9_readNumber_65 ?_
        refine lv_aload_n hx hb dX9_readNumber_66 rfl (lv_at hl 2 rfl) ?_
        obtain ⟨v18, h17, h⟩ := bd_o h
        refine back_i (rest := [.int (v6 * 10)]) hW (run_V S hW (ct_X9_peek l G A σ7 _ h17) mi_X9_peek lk_X9_53 (eC_25 G A σ7) rfl rfl rfl hl (Nat.le_of_ble_eq_true rfl) dX9_readNumber_67 ⟨Nat.le_of_ble_eq_true rfl, Nat.le_of_ble_eq_true rfl⟩ rfl rfl) (fun H locs hW => ?_)
        refine lv_iadd hx hb dX9_readNumber_70 ?_
        refine lv_bipush (v := 48) hx hb dX9_readNumber_71 (by decide) ?_
        refine lv_isub hx hb dX9_readNumber_73 ?_
        refine nm_i h (fun v19 h => ?_)
        refine lv_istore (lv' := [(4, .int v19), (3, .int v1), (0, .ref (A 25)), (1, .int a1), (2, .int a2)]) hx hb dX9_readNumber_74 hl (by decide) rfl (fun ls hl => ?_)
        refine lv_aload_n hx hb dX9_readNumber_76 rfl (lv_at hl 2 rfl) ?_
        refine lv_dup hx hb dX9_readNumber_77 rfl ?_
        refine gC_X9_at S hW lk_X9_15 dX9_readNumber_78 ?_
        refine lv_iconst (v := 1) hx hb dX9_readNumber_81 (by decide) ?_
        refine lv_iadd hx hb dX9_readNumber_82 ?_
        refine pC_X9_at S hW lk_X9_15 dX9_readNumber_83 (fun σ20 H locs eσ20 hW => ?_)
        have h := lt_at eσ20 h
        exact hJ10 σ20 v19 _ _ _ hW (lv_sub hl [2, 3, 4, 1, 0] rfl) h
  · refine lv_iconst (v := 0) hx hb dX9_readNumber_8 (by decide) ?_
    exact ret_is (wf := wC G A) hret h rfl hW dX9_readNumber_9
def rmX9_readFacts : Room := { frames := 2, cells := 0, slots := 0, locals := 45 }
def LX9_readFacts_32 (K : SC → Int32 → Option (Int32 × SC)) : Nat → SC → Int32 → Int32 → Option (Int32 × SC)
  | 0, _, _, _ => none
  | k + 1, σ, y1, y2 => if 160 ≤ y2 then K σ y1 else if (gi σ 24) = (-1) then bd (f_X9_peek σ) (fun v8 => if v8 = 44 then lt (si σ 23 ((gi σ 23) + 1)) (fun σ9 => bd2 (f_X9_readNumber σ9 0 29) (fun v12 σ11 => lt (y1 ||| (1 <<< (v12 &&& 31))) (fun v13 => lt (y2 + 1) (fun v14 => LX9_readFacts_32 K k σ11 v13 v14)))) else K σ y1) else K σ y1
def f_X9_readFacts (n : Nat) (σ : SC) : Option (Int32 × SC) := if (gi σ 24) = (-1) then bd (f_X9_peek σ) (fun v2 => if (f_X9_isDigit v2) = 0 then some (0, σ) else bd2 (f_X9_readNumber σ 0 29) (fun v5 σ4 => lt (1 <<< (v5 &&& 31)) (fun v6 => LX9_readFacts_32 (fun σ15 w16 => some (w16, σ15)) n σ4 v6 0))) else some (0, σ)
theorem mi_X9_readFacts : MI yX9_readFacts cX9_readFacts 3 (some .int) 0 := ⟨im_X9_readFacts, se_X9_readFacts, in_X9, co_X9_readFacts, by decide, by decide, by decide +kernel⟩
set_option maxRecDepth 100000 in
set_option maxHeartbeats 4000000 in
theorem ct_X9_readFacts (l : Launch) (n : Nat) (G : EN) (A : Nat → Nat) (σ : SC) (sz : Nat) {r0 : Int32} {σ0 : SC} (h : f_X9_readFacts n σ = some (r0, σ0)) : CT l yX9_readFacts cX9_readFacts 3 (some .int) rmX9_readFacts G sz [.ref (A 25)] (wC G A σ) (QI G (va_A (wC G A σ) sz) r0 (wC G A σ0)) := by
  unfold f_X9_readFacts at h
  refine CI.intro (lv := [(0, .ref (A 25))]) (by decide) (Nat.le_of_ble_eq_true rfl) rfl ?_
  intro p e s m args below meth c Q B S hret H locs ls hW hl
  have hx := S.1
  have hb := S.2.1
  refine lv_aload_n hx hb dX9_readFacts_0 rfl (lv_at hl 0 rfl) ?_
  refine gC_X9_faultAt S hW lk_X9_19 dX9_readFacts_1 ?_
  refine lv_iconst (v := (-1)) hx hb dX9_readFacts_4 (by decide) ?_
  refine bc_ne (tgt := 18) hx hb h dX9_readFacts_5 (by decide) (fun _ h => ?_) (fun _ h => ?_)
  · refine lv_aload_n hx hb dX9_readFacts_8 rfl (lv_at hl 0 rfl) ?_
    obtain ⟨v2, h1, h⟩ := bd_o h
    refine back_i (rest := []) hW (run_V S hW (ct_X9_peek l G A σ _ h1) mi_X9_peek lk_X9_53 (eC_25 G A σ) rfl rfl rfl hl (Nat.le_of_ble_eq_true rfl) dX9_readFacts_9 ⟨Nat.le_of_ble_eq_true rfl, Nat.le_of_ble_eq_true rfl⟩ rfl rfl) (fun H locs hW => ?_)
    refine back_i (rest := []) hW (run_S S hW (ct_X9_isDigit l G A σ _ v2 rfl) ms_X9_isDigit lk_X9_96 rfl rfl hl (Nat.le_of_ble_eq_true rfl) dX9_readFacts_12 ⟨Nat.le_of_ble_eq_true rfl, Nat.le_of_ble_eq_true rfl⟩ rfl rfl) (fun H locs hW => ?_)
    refine bz_ne (tgt := 20) hx hb h dX9_readFacts_15 (by decide) (fun _ h => ?_) (fun _ h => ?_)
    · refine lv_iconst (v := 0) hx hb dX9_readFacts_18 (by decide) ?_
      exact ret_is (wf := wC G A) hret h rfl hW dX9_readFacts_19
    · refine lv_iconst (v := 1) hx hb dX9_readFacts_20 (by decide) ?_
      refine lv_aload_n hx hb dX9_readFacts_21 rfl (lv_at hl 0 rfl) ?_
      refine lv_iconst (v := 0) hx hb dX9_readFacts_22 (by decide) ?_
      refine lv_bipush (v := 29) hx hb dX9_readFacts_23 (by decide) ?_
      obtain ⟨v5, σ4, h3, h⟩ := bd2_o h
      refine back_i (rest := [.int 1]) hW (run_V S hW (ct_X9_readNumber l G A σ _ 0 29 h3) mi_X9_readNumber lk_X9_88 (eC_25 G A σ) rfl rfl rfl hl (Nat.le_of_ble_eq_true rfl) dX9_readFacts_25 ⟨Nat.le_of_ble_eq_true rfl, Nat.le_of_ble_eq_true rfl⟩ rfl rfl) (fun H locs hW => ?_)
      refine lv_ishl hx hb dX9_readFacts_28 ?_
      refine nm_i h (fun v6 h => ?_)
      refine lv_istore_n (lv' := [(1, .int v6), (0, .ref (A 25))]) hx hb dX9_readFacts_29 rfl hl (by decide) rfl (fun ls hl => ?_)
      refine lv_iconst (v := 0) hx hb dX9_readFacts_30 (by decide) ?_
      refine lv_istore_n (lv' := [(2, .int 0), (1, .int v6), (0, .ref (A 25))]) hx hb dX9_readFacts_31 rfl hl (by decide) rfl (fun ls hl => ?_)
      have hL32 : ∀  (K : SC → Int32 → Option (Int32 × SC)), (∀ (σ : SC) (z1 : Int32) (H : Heap) (locs : List Loc) (ls : Array Slot), WS G B s (wC G A σ) H locs → lv_has ls 3 [(1, .int z1)] → K σ z1 = some (r0, σ0) → W p l e rmX9_readFacts s m args below meth c H locs 0 0 Q (F0 m 84 ls [])) → ∀ (k : Nat) (σ : SC) (y1 : Int32) (y2 : Int32)  (H : Heap) (locs : List Loc) (ls : Array Slot), WS G B s (wC G A σ) H locs → lv_has ls 3 [(0, .ref (A 25)), (1, .int y1), (2, .int y2)] → LX9_readFacts_32 K k σ y1 y2 = some (r0, σ0) → W p l e rmX9_readFacts s m args below meth c H locs 0 0 Q (F0 m 32 ls []) := by
        intro  K hK k
        induction k with
        | zero => intro σ y1 y2 H locs ls hW hl h; rw [LX9_readFacts_32] at h; cases h
        | succ k ih =>
          intro σ y1 y2 H locs ls hW hl h
          rw [LX9_readFacts_32] at h
          refine lv_iload_n hx hb dX9_readFacts_32 rfl (lv_at hl 2 rfl) ?_
          refine lv_sipush (v := 160) hx hb dX9_readFacts_33 (by decide) ?_
          refine bc_ge (tgt := 84) hx hb h dX9_readFacts_36 (by decide) (fun _ h => ?_) (fun _ h => ?_)
          · exact hK σ y1 _ _ _ hW (lv_sub hl [1] rfl) h
          · refine lv_aload_n hx hb dX9_readFacts_39 rfl (lv_at hl 0 rfl) ?_
            refine gC_X9_faultAt S hW lk_X9_19 dX9_readFacts_40 ?_
            refine lv_iconst (v := (-1)) hx hb dX9_readFacts_43 (by decide) ?_
            refine bc_ne (tgt := 84) hx hb h dX9_readFacts_44 (by decide) (fun _ h => ?_) (fun _ h => ?_)
            · refine lv_aload_n hx hb dX9_readFacts_47 rfl (lv_at hl 0 rfl) ?_
              obtain ⟨v8, h7, h⟩ := bd_o h
              refine back_i (rest := []) hW (run_V S hW (ct_X9_peek l G A σ _ h7) mi_X9_peek lk_X9_53 (eC_25 G A σ) rfl rfl rfl hl (Nat.le_of_ble_eq_true rfl) dX9_readFacts_48 ⟨Nat.le_of_ble_eq_true rfl, Nat.le_of_ble_eq_true rfl⟩ rfl rfl) (fun H locs hW => ?_)
              refine lv_bipush (v := 44) hx hb dX9_readFacts_51 (by decide) ?_
              refine bc_ne (tgt := 84) hx hb h dX9_readFacts_53 (by decide) (fun _ h => ?_) (fun _ h => ?_)
              · refine lv_aload_n hx hb dX9_readFacts_56 rfl (lv_at hl 0 rfl) ?_
                refine lv_dup hx hb dX9_readFacts_57 rfl ?_
                refine gC_X9_at S hW lk_X9_15 dX9_readFacts_58 ?_
                refine lv_iconst (v := 1) hx hb dX9_readFacts_61 (by decide) ?_
                refine lv_iadd hx hb dX9_readFacts_62 ?_
                refine pC_X9_at S hW lk_X9_15 dX9_readFacts_63 (fun σ9 H locs eσ9 hW => ?_)
                have h := lt_at eσ9 h
                refine lv_iload_n hx hb dX9_readFacts_66 rfl (lv_at hl 1 rfl) ?_
                refine lv_iconst (v := 1) hx hb dX9_readFacts_67 (by decide) ?_
                refine lv_aload_n hx hb dX9_readFacts_68 rfl (lv_at hl 0 rfl) ?_
                refine lv_iconst (v := 0) hx hb dX9_readFacts_69 (by decide) ?_
                refine lv_bipush (v := 29) hx hb dX9_readFacts_70 (by decide) ?_
                obtain ⟨v12, σ11, h10, h⟩ := bd2_o h
                refine back_i (rest := [.int 1, .int y1]) hW (run_V S hW (ct_X9_readNumber l G A σ9 _ 0 29 h10) mi_X9_readNumber lk_X9_88 (eC_25 G A σ9) rfl rfl rfl hl (Nat.le_of_ble_eq_true rfl) dX9_readFacts_72 ⟨Nat.le_of_ble_eq_true rfl, Nat.le_of_ble_eq_true rfl⟩ rfl rfl) (fun H locs hW => ?_)
                refine lv_ishl hx hb dX9_readFacts_75 ?_
                refine lv_ior hx hb dX9_readFacts_76 ?_
                refine nm_i h (fun v13 h => ?_)
                refine lv_istore_n (lv' := [(1, .int v13), (0, .ref (A 25)), (2, .int y2)]) hx hb dX9_readFacts_77 rfl hl (by decide) rfl (fun ls hl => ?_)
                refine w_iinc (lv' := [(1, .int v13), (0, .ref (A 25))]) hx hb dX9_readFacts_78 hl (k := 2) rfl (by decide) (by decide) rfl h (fun v14 ls hl h => ?_)
                refine lv_goto (tgt := 32) hx hb dX9_readFacts_81 (by decide) ?_
                exact ih σ11 v13 v14 _ _ _ hW (lv_sub hl [2, 1, 0] rfl) h
              · exact hK σ y1 _ _ _ hW (lv_sub hl [1] rfl) h
            · exact hK σ y1 _ _ _ hW (lv_sub hl [1] rfl) h
      refine hL32  _ (fun σ15 w16 H locs ls hW hl h => ?_) n σ4 v6 0 _ _ _ hW (lv_sub hl [2, 1, 0] rfl) h
      refine lv_iload_n hx hb dX9_readFacts_84 rfl (lv_at hl 0 rfl) ?_
      exact ret_is (wf := wC G A) hret h rfl hW dX9_readFacts_85
  · refine lv_iconst (v := 0) hx hb dX9_readFacts_18 (by decide) ?_
    exact ret_is (wf := wC G A) hret h rfl hW dX9_readFacts_19
def rmX9_readSetItem : Room := { frames := 13, cells := 0, slots := 0, locals := 422 }
def f_X9_readSetItem (n : Nat) (σ : SC) (j1 : Nat) : Option (Int32 × SC) := bd (f_X9_expectWord n σ j1) (fun σ2 => bd (f_X9_expect σ2 32) (fun σ4 => bd2 (f_X9_readFacts n σ4) (fun v7 σ6 => some (v7, σ6))))
theorem mi_X9_readSetItem : MI yX9_readSetItem cX9_readSetItem 2 (some .int) 1 := ⟨im_X9_readSetItem, se_X9_readSetItem, in_X9, co_X9_readSetItem, by decide, by decide, by decide +kernel⟩
set_option maxRecDepth 100000 in
set_option maxHeartbeats 4000000 in
theorem ct_X9_readSetItem (l : Launch) (n : Nat) (G : EN) (A : Nat → Nat) (σ : SC) (sz : Nat) (j1 : Nat) (hj1 : j1 < 8) {r0 : Int32} {σ0 : SC} (h : f_X9_readSetItem n σ j1 = some (r0, σ0)) : CT l yX9_readSetItem cX9_readSetItem 2 (some .int) rmX9_readSetItem G sz [.ref (A 25), .ref (G.2.2.1 j1)] (wC G A σ) (QI G (va_A (wC G A σ) sz) r0 (wC G A σ0)) := by
  unfold f_X9_readSetItem at h
  refine CI.intro (lv := [(0, .ref (A 25)), (1, .ref (G.2.2.1 j1))]) (by decide) (Nat.le_of_ble_eq_true rfl) rfl ?_
  intro p e s m args below meth c Q B S hret H locs ls hW hl
  have hx := S.1
  have hb := S.2.1
  refine lv_aload_n hx hb dX9_readSetItem_0 rfl (lv_at hl 0 rfl) ?_
  refine lv_aload_n hx hb dX9_readSetItem_1 rfl (lv_at hl 1 rfl) ?_
  obtain ⟨σ2, h1, h⟩ := bd_o h
  refine back_v (rest := []) hW (run_V S hW (ct_X9_expectWord l n G A σ _ j1 hj1 h1) mi_X9_expectWord lk_X9_74 (eC_25 G A σ) rfl rfl rfl hl (Nat.le_of_ble_eq_true rfl) dX9_readSetItem_2 ⟨Nat.le_of_ble_eq_true rfl, Nat.le_of_ble_eq_true rfl⟩ rfl rfl) (fun H locs hW => ?_)
  refine lv_aload_n hx hb dX9_readSetItem_5 rfl (lv_at hl 0 rfl) ?_
  refine lv_bipush (v := 32) hx hb dX9_readSetItem_6 (by decide) ?_
  obtain ⟨σ4, h3, h⟩ := bd_o h
  refine back_v (rest := []) hW (run_V S hW (ct_X9_expect l G A σ2 _ 32 h3) mi_X9_expect lk_X9_49 (eC_25 G A σ2) rfl rfl rfl hl (Nat.le_of_ble_eq_true rfl) dX9_readSetItem_8 ⟨Nat.le_of_ble_eq_true rfl, Nat.le_of_ble_eq_true rfl⟩ rfl rfl) (fun H locs hW => ?_)
  refine lv_aload_n hx hb dX9_readSetItem_11 rfl (lv_at hl 0 rfl) ?_
  obtain ⟨v7, σ6, h5, h⟩ := bd2_o h
  refine back_i (rest := []) hW (run_V S hW (ct_X9_readFacts l n G A σ4 _ h5) mi_X9_readFacts lk_X9_78 (eC_25 G A σ4) rfl rfl rfl hl (Nat.le_of_ble_eq_true rfl) dX9_readSetItem_12 ⟨Nat.le_of_ble_eq_true rfl, Nat.le_of_ble_eq_true rfl⟩ rfl rfl) (fun H locs hW => ?_)
  exact ret_is (wf := wC G A) hret h rfl hW dX9_readSetItem_15
def rmX9_readAct : Room := { frames := 13, cells := 0, slots := 0, locals := 422 }
def f_X9_readAct (n : Nat) (σ : SC) : Option SC := lt (gi σ 23) (fun v1 => bd (f_X9_expectWord n σ 3) (fun σ3 => jn (fun (σ5 : SC) => bd (f_X9_expect σ5 32) (fun σ7 => bd2 (f_X9_readFacts n σ7) (fun v10 σ9 => bd (f_X9_expect σ9 43) (fun σ12 => bd2 (f_X9_readFacts n σ12) (fun v15 σ14 => bd (f_X9_expect σ14 45) (fun σ17 => bd2 (f_X9_readFacts n σ17) (fun v20 σ19 => bd (f_X9_expect σ19 36) (fun σ22 => bd2 (f_X9_readNumber σ22 1 99) (fun v25 σ24 => if (gi σ24 24) = (-1) then bd (f_X0_write σ24 ((gi σ24 6) + (gi σ24 26)) v10 v15 v20 v25) (fun σ27 => lt (si σ27 26 ((gi σ27 26) + 1)) (fun σ28 => some σ28)) else some σ24))))))))) (fun J4 => if ((gi σ3 6) + (gi σ3 26)) < 24 then J4 σ3 else bd (f_X9_fail σ3 v1) (fun σ30 => J4 σ30))))
theorem mi_X9_readAct : MI yX9_readAct cX9_readAct 6 none 0 := ⟨im_X9_readAct, se_X9_readAct, in_X9, co_X9_readAct, by decide, by decide, by decide +kernel⟩
set_option maxRecDepth 100000 in
set_option maxHeartbeats 4000000 in
theorem ct_X9_readAct (l : Launch) (n : Nat) (G : EN) (A : Nat → Nat) (σ : SC) (sz : Nat) {σ0 : SC} (h : f_X9_readAct n σ = some σ0) : CT l yX9_readAct cX9_readAct 6 none rmX9_readAct G sz [.ref (A 25)] (wC G A σ) (QV G (va_A (wC G A σ) sz) (wC G A σ0)) := by
  unfold f_X9_readAct at h
  refine CV.intro (lv := [(0, .ref (A 25))]) (by decide) (Nat.le_of_ble_eq_true rfl) rfl ?_
  intro p e s m args below meth c Q B S hret H locs ls hW hl
  have hx := S.1
  have hb := S.2.1
  refine lv_aload_n hx hb dX9_readAct_0 rfl (lv_at hl 0 rfl) ?_
  refine gC_X9_at S hW lk_X9_15 dX9_readAct_1 ?_
  refine nm_i h (fun v1 h => ?_)
  refine lv_istore_n (lv' := [(1, .int v1), (0, .ref (A 25))]) hx hb dX9_readAct_4 rfl hl (by decide) rfl (fun ls hl => ?_)
  refine lv_aload_n hx hb dX9_readAct_5 rfl (lv_at hl 1 rfl) ?_
  refine va_ldcS hx hb S.2.2.2.1 (hW.lit (List.mem_of_getElem? (i := 3) rfl)) dX9_readAct_6 ?_
  obtain ⟨σ3, h2, h⟩ := bd_o h
  refine back_v (rest := []) hW (run_V S hW (ct_X9_expectWord l n G A σ _ 3 (by decide) h2) mi_X9_expectWord lk_X9_74 (eC_25 G A σ) rfl rfl rfl hl (Nat.le_of_ble_eq_true rfl) dX9_readAct_8 ⟨Nat.le_of_ble_eq_true rfl, Nat.le_of_ble_eq_true rfl⟩ rfl rfl) (fun H locs hW => ?_)
  refine lv_aload_n hx hb dX9_readAct_11 rfl (lv_at hl 1 rfl) ?_
  refine gC_X9_table S hW lk_X9_37 dX9_readAct_12 ?_
  refine gC_X0_count S hW lk_X9_83 dX9_readAct_15 ?_
  refine lv_aload_n hx hb dX9_readAct_18 rfl (lv_at hl 1 rfl) ?_
  refine gC_X9_staged S hW lk_X9_25 dX9_readAct_19 ?_
  refine lv_iadd hx hb dX9_readAct_22 ?_
  refine lv_bipush (v := 24) hx hb dX9_readAct_23 (by decide) ?_
  obtain ⟨J4, eJ4, h⟩ := jn_o h
  have hJ4 : ∀ (σ5 : SC)  (H : Heap) (locs : List Loc) (ls : Array Slot), WS G B s (wC G A σ5) H locs → lv_has ls 6 [(0, .ref (A 25))] → J4 σ5 = some σ0 → W p l e rmX9_readAct s m args below meth c H locs 0 0 Q (F0 m 33 ls []) := by
    subst eJ4
    intro σ5 H locs ls hW hl h
    refine lv_aload_n hx hb dX9_readAct_33 rfl (lv_at hl 0 rfl) ?_
    refine lv_bipush (v := 32) hx hb dX9_readAct_34 (by decide) ?_
    obtain ⟨σ7, h6, h⟩ := bd_o h
    refine back_v (rest := []) hW (run_V S hW (ct_X9_expect l G A σ5 _ 32 h6) mi_X9_expect lk_X9_49 (eC_25 G A σ5) rfl rfl rfl hl (Nat.le_of_ble_eq_true rfl) dX9_readAct_36 ⟨Nat.le_of_ble_eq_true rfl, Nat.le_of_ble_eq_true rfl⟩ rfl rfl) (fun H locs hW => ?_)
    refine lv_aload_n hx hb dX9_readAct_39 rfl (lv_at hl 0 rfl) ?_
    obtain ⟨v10, σ9, h8, h⟩ := bd2_o h
    refine back_i (rest := []) hW (run_V S hW (ct_X9_readFacts l n G A σ7 _ h8) mi_X9_readFacts lk_X9_78 (eC_25 G A σ7) rfl rfl rfl hl (Nat.le_of_ble_eq_true rfl) dX9_readAct_40 ⟨Nat.le_of_ble_eq_true rfl, Nat.le_of_ble_eq_true rfl⟩ rfl rfl) (fun H locs hW => ?_)
    refine lv_istore_n (lv' := [(2, .int v10), (0, .ref (A 25))]) hx hb dX9_readAct_43 rfl hl (by decide) rfl (fun ls hl => ?_)
    refine lv_aload_n hx hb dX9_readAct_44 rfl (lv_at hl 1 rfl) ?_
    refine lv_bipush (v := 43) hx hb dX9_readAct_45 (by decide) ?_
    obtain ⟨σ12, h11, h⟩ := bd_o h
    refine back_v (rest := []) hW (run_V S hW (ct_X9_expect l G A σ9 _ 43 h11) mi_X9_expect lk_X9_49 (eC_25 G A σ9) rfl rfl rfl hl (Nat.le_of_ble_eq_true rfl) dX9_readAct_47 ⟨Nat.le_of_ble_eq_true rfl, Nat.le_of_ble_eq_true rfl⟩ rfl rfl) (fun H locs hW => ?_)
    refine lv_aload_n hx hb dX9_readAct_50 rfl (lv_at hl 1 rfl) ?_
    obtain ⟨v15, σ14, h13, h⟩ := bd2_o h
    refine back_i (rest := []) hW (run_V S hW (ct_X9_readFacts l n G A σ12 _ h13) mi_X9_readFacts lk_X9_78 (eC_25 G A σ12) rfl rfl rfl hl (Nat.le_of_ble_eq_true rfl) dX9_readAct_51 ⟨Nat.le_of_ble_eq_true rfl, Nat.le_of_ble_eq_true rfl⟩ rfl rfl) (fun H locs hW => ?_)
    refine lv_istore_n (lv' := [(3, .int v15), (2, .int v10), (0, .ref (A 25))]) hx hb dX9_readAct_54 rfl hl (by decide) rfl (fun ls hl => ?_)
    refine lv_aload_n hx hb dX9_readAct_55 rfl (lv_at hl 2 rfl) ?_
    refine lv_bipush (v := 45) hx hb dX9_readAct_56 (by decide) ?_
    obtain ⟨σ17, h16, h⟩ := bd_o h
    refine back_v (rest := []) hW (run_V S hW (ct_X9_expect l G A σ14 _ 45 h16) mi_X9_expect lk_X9_49 (eC_25 G A σ14) rfl rfl rfl hl (Nat.le_of_ble_eq_true rfl) dX9_readAct_58 ⟨Nat.le_of_ble_eq_true rfl, Nat.le_of_ble_eq_true rfl⟩ rfl rfl) (fun H locs hW => ?_)
    refine lv_aload_n hx hb dX9_readAct_61 rfl (lv_at hl 2 rfl) ?_
    obtain ⟨v20, σ19, h18, h⟩ := bd2_o h
    refine back_i (rest := []) hW (run_V S hW (ct_X9_readFacts l n G A σ17 _ h18) mi_X9_readFacts lk_X9_78 (eC_25 G A σ17) rfl rfl rfl hl (Nat.le_of_ble_eq_true rfl) dX9_readAct_62 ⟨Nat.le_of_ble_eq_true rfl, Nat.le_of_ble_eq_true rfl⟩ rfl rfl) (fun H locs hW => ?_)
    refine lv_istore (lv' := [(4, .int v20), (3, .int v15), (2, .int v10), (0, .ref (A 25))]) hx hb dX9_readAct_65 hl (by decide) rfl (fun ls hl => ?_)
    refine lv_aload_n hx hb dX9_readAct_67 rfl (lv_at hl 3 rfl) ?_
    refine lv_bipush (v := 36) hx hb dX9_readAct_68 (by decide) ?_
    obtain ⟨σ22, h21, h⟩ := bd_o h
    refine back_v (rest := []) hW (run_V S hW (ct_X9_expect l G A σ19 _ 36 h21) mi_X9_expect lk_X9_49 (eC_25 G A σ19) rfl rfl rfl hl (Nat.le_of_ble_eq_true rfl) dX9_readAct_70 ⟨Nat.le_of_ble_eq_true rfl, Nat.le_of_ble_eq_true rfl⟩ rfl rfl) (fun H locs hW => ?_)
    refine lv_aload_n hx hb dX9_readAct_73 rfl (lv_at hl 3 rfl) ?_
    refine lv_iconst (v := 1) hx hb dX9_readAct_74 (by decide) ?_
    refine lv_bipush (v := 99) hx hb dX9_readAct_75 (by decide) ?_
    obtain ⟨v25, σ24, h23, h⟩ := bd2_o h
    refine back_i (rest := []) hW (run_V S hW (ct_X9_readNumber l G A σ22 _ 1 99 h23) mi_X9_readNumber lk_X9_88 (eC_25 G A σ22) rfl rfl rfl hl (Nat.le_of_ble_eq_true rfl) dX9_readAct_77 ⟨Nat.le_of_ble_eq_true rfl, Nat.le_of_ble_eq_true rfl⟩ rfl rfl) (fun H locs hW => ?_)
    refine lv_istore (lv' := [(5, .int v25), (4, .int v20), (3, .int v15), (2, .int v10), (0, .ref (A 25))]) hx hb dX9_readAct_80 hl (by decide) rfl (fun ls hl => ?_)
    refine lv_aload_n hx hb dX9_readAct_82 rfl (lv_at hl 4 rfl) ?_
    refine gC_X9_faultAt S hW lk_X9_19 dX9_readAct_83 ?_
    refine lv_iconst (v := (-1)) hx hb dX9_readAct_86 (by decide) ?_
    refine bc_ne (tgt := 125) hx hb h dX9_readAct_87 (by decide) (fun _ h => ?_) (fun _ h => ?_)
    · refine lv_aload_n hx hb dX9_readAct_90 rfl (lv_at hl 4 rfl) ?_
      refine gC_X9_table S hW lk_X9_37 dX9_readAct_91 ?_
      refine lv_aload_n hx hb dX9_readAct_94 rfl (lv_at hl 4 rfl) ?_
      refine gC_X9_table S hW lk_X9_37 dX9_readAct_95 ?_
      refine gC_X0_count S hW lk_X9_83 dX9_readAct_98 ?_
      refine lv_aload_n hx hb dX9_readAct_101 rfl (lv_at hl 4 rfl) ?_
      refine gC_X9_staged S hW lk_X9_25 dX9_readAct_102 ?_
      refine lv_iadd hx hb dX9_readAct_105 ?_
      refine lv_iload_n hx hb dX9_readAct_106 rfl (lv_at hl 3 rfl) ?_
      refine lv_iload_n hx hb dX9_readAct_107 rfl (lv_at hl 2 rfl) ?_
      refine lv_iload hx hb dX9_readAct_108 (lv_at hl 1 rfl) ?_
      refine lv_iload hx hb dX9_readAct_110 (lv_at hl 0 rfl) ?_
      obtain ⟨σ27, h26, h⟩ := bd_o h
      refine back_v (rest := []) hW (run_V S hW (ct_X0_write l G A σ24 _ ((gi σ24 6) + (gi σ24 26)) v10 v15 v20 v25 h26) mi_X0_write lk_X9_92 (eC_1 G A σ24) rfl rfl rfl hl (Nat.le_of_ble_eq_true rfl) dX9_readAct_112 ⟨Nat.le_of_ble_eq_true rfl, Nat.le_of_ble_eq_true rfl⟩ rfl rfl) (fun H locs hW => ?_)
      refine lv_aload_n hx hb dX9_readAct_115 rfl (lv_at hl 4 rfl) ?_
      refine lv_dup hx hb dX9_readAct_116 rfl ?_
      refine gC_X9_staged S hW lk_X9_25 dX9_readAct_117 ?_
      refine lv_iconst (v := 1) hx hb dX9_readAct_120 (by decide) ?_
      refine lv_iadd hx hb dX9_readAct_121 ?_
      refine pC_X9_staged S hW lk_X9_25 dX9_readAct_122 (fun σ28 H locs eσ28 hW => ?_)
      have h := lt_at eσ28 h
      exact ret_vs (wf := wC G A) hret h hW dX9_readAct_125
    · exact ret_vs (wf := wC G A) hret h hW dX9_readAct_125
  clear eJ4
  refine bc_lt (tgt := 33) hx hb h dX9_readAct_25 (by decide) (fun _ h => ?_) (fun _ h => ?_)
  · exact hJ4 σ3 _ _ _ hW (lv_sub hl [1] rfl) h
  · refine lv_aload_n hx hb dX9_readAct_28 rfl (lv_at hl 1 rfl) ?_
    refine lv_iload_n hx hb dX9_readAct_29 rfl (lv_at hl 0 rfl) ?_
    obtain ⟨σ30, h29, h⟩ := bd_o h
    refine back_v (rest := []) hW (run_V S hW (ct_X9_fail l G A σ3 _ v1 h29) mi_X9_fail lk_X9_70 (eC_25 G A σ3) rfl rfl rfl hl (Nat.le_of_ble_eq_true rfl) dX9_readAct_30 ⟨Nat.le_of_ble_eq_true rfl, Nat.le_of_ble_eq_true rfl⟩ rfl rfl) (fun H locs hW => ?_)
    exact hJ4 σ30 _ _ _ hW (lv_sub hl [1] rfl) h
def rmX9_readItem : Room := { frames := 14, cells := 0, slots := 0, locals := 447 }
def f_X9_readItem (n : Nat) (σ : SC) : Option SC := if (gi σ 24) = (-1) then bd (f_X9_peek σ) (fun v2 => jn (fun (σ4 : SC) => lt (si σ4 25 ((gi σ4 25) + 1)) (fun σ5 => some σ5)) (fun J3 => if v2 = 97 then bd (f_X9_readAct n σ) (fun σ7 => J3 σ7) else if v2 = 103 then bd2 (f_X9_readSetItem n σ 1) (fun v10 σ9 => lt (si σ9 28 v10) (fun σ11 => J3 σ11)) else if v2 = 110 then bd2 (f_X9_readSetItem n σ 2) (fun v14 σ13 => lt (si σ13 29 v14) (fun σ15 => J3 σ15)) else if v2 = 115 then bd2 (f_X9_readSetItem n σ 0) (fun v18 σ17 => lt (si σ17 27 v18) (fun σ19 => J3 σ19)) else bd (f_X9_fail σ (gi σ 23)) (fun σ21 => J3 σ21))) else some σ
theorem mi_X9_readItem : MI yX9_readItem cX9_readItem 1 none 0 := ⟨im_X9_readItem, se_X9_readItem, in_X9, co_X9_readItem, by decide, by decide, by decide +kernel⟩
set_option maxRecDepth 100000 in
set_option maxHeartbeats 4000000 in
theorem ct_X9_readItem (l : Launch) (n : Nat) (G : EN) (A : Nat → Nat) (σ : SC) (sz : Nat) {σ0 : SC} (h : f_X9_readItem n σ = some σ0) : CT l yX9_readItem cX9_readItem 1 none rmX9_readItem G sz [.ref (A 25)] (wC G A σ) (QV G (va_A (wC G A σ) sz) (wC G A σ0)) := by
  unfold f_X9_readItem at h
  refine CV.intro (lv := [(0, .ref (A 25))]) (by decide) (Nat.le_of_ble_eq_true rfl) rfl ?_
  intro p e s m args below meth c Q B S hret H locs ls hW hl
  have hx := S.1
  have hb := S.2.1
  refine lv_aload_n hx hb dX9_readItem_0 rfl (lv_at hl 0 rfl) ?_
  refine gC_X9_faultAt S hW lk_X9_19 dX9_readItem_1 ?_
  refine lv_iconst (v := (-1)) hx hb dX9_readItem_4 (by decide) ?_
  refine bc_eq (tgt := 9) hx hb h dX9_readItem_5 (by decide) (fun _ h => ?_) (fun _ h => ?_)
  · refine lv_aload_n hx hb dX9_readItem_9 rfl (lv_at hl 0 rfl) ?_
    obtain ⟨v2, h1, h⟩ := bd_o h
    refine back_i (rest := []) hW (run_V S hW (ct_X9_peek l G A σ _ h1) mi_X9_peek lk_X9_53 (eC_25 G A σ) rfl rfl rfl hl (Nat.le_of_ble_eq_true rfl) dX9_readItem_10 ⟨Nat.le_of_ble_eq_true rfl, Nat.le_of_ble_eq_true rfl⟩ rfl rfl) (fun H locs hW => ?_)
    obtain ⟨J3, eJ3, h⟩ := jn_o h
    have hJ3 : ∀ (σ4 : SC)  (H : Heap) (locs : List Loc) (ls : Array Slot), WS G B s (wC G A σ4) H locs → lv_has ls 1 [(0, .ref (A 25))] → J3 σ4 = some σ0 → W p l e rmX9_readItem s m args below meth c H locs 0 0 Q (F0 m 110 ls []) := by
      subst eJ3
      intro σ4 H locs ls hW hl h
      refine lv_aload_n hx hb dX9_readItem_110 rfl (lv_at hl 0 rfl) ?_
      refine lv_dup hx hb dX9_readItem_111 rfl ?_
      refine gC_X9_items S hW lk_X9_22 dX9_readItem_112 ?_
      refine lv_iconst (v := 1) hx hb dX9_readItem_115 (by decide) ?_
      refine lv_iadd hx hb dX9_readItem_116 ?_
      refine pC_X9_items S hW lk_X9_22 dX9_readItem_117 (fun σ5 H locs eσ5 hW => ?_)
      have h := lt_at eσ5 h
      exact ret_vs (wf := wC G A) hret h hW dX9_readItem_120
    clear eJ3
    refine b_if h (fun hs13_0 h => ?_) (fun hs13_0 h => ?_)
    · refine lv_lookup (tgt := 95) (off := 82) hx hb dX9_readItem_13 (by decide) (by rw [hs13_0]; decide) (by decide) ?_
      refine lv_aload_n hx hb dX9_readItem_95 rfl (lv_at hl 0 rfl) ?_
      obtain ⟨σ7, h6, h⟩ := bd_o h
      refine back_v (rest := []) hW (run_V S hW (ct_X9_readAct l n G A σ _ h6) mi_X9_readAct lk_X9_67 (eC_25 G A σ) rfl rfl rfl hl (Nat.le_of_ble_eq_true rfl) dX9_readItem_96 ⟨Nat.le_of_ble_eq_true rfl, Nat.le_of_ble_eq_true rfl⟩ rfl rfl) (fun H locs hW => ?_)
      refine lv_goto (tgt := 110) hx hb dX9_readItem_99 (by decide) ?_
      exact hJ3 σ7 _ _ _ hW (hl) h
    refine b_if h (fun hs13_1 h => ?_) (fun hs13_1 h => ?_)
    · refine lv_lookup (tgt := 69) (off := 56) hx hb dX9_readItem_13 (by decide) (by rw [hs13_1]; decide) (by decide) ?_
      refine lv_aload_n hx hb dX9_readItem_69 rfl (lv_at hl 0 rfl) ?_
      refine lv_aload_n hx hb dX9_readItem_70 rfl (lv_at hl 0 rfl) ?_
      refine va_ldcS hx hb S.2.2.2.1 (hW.lit (List.mem_of_getElem? (i := 1) rfl)) dX9_readItem_71 ?_
      obtain ⟨v10, σ9, h8, h⟩ := bd2_o h
      refine back_i (rest := [.ref (A 25)]) hW (run_V S hW (ct_X9_readSetItem l n G A σ _ 1 (by decide) h8) mi_X9_readSetItem lk_X9_59 (eC_25 G A σ) rfl rfl rfl hl (Nat.le_of_ble_eq_true rfl) dX9_readItem_73 ⟨Nat.le_of_ble_eq_true rfl, Nat.le_of_ble_eq_true rfl⟩ rfl rfl) (fun H locs hW => ?_)
      refine pC_X9_goalRead S hW lk_X9_31 dX9_readItem_76 (fun σ11 H locs eσ11 hW => ?_)
      have h := lt_at eσ11 h
      refine lv_goto (tgt := 110) hx hb dX9_readItem_79 (by decide) ?_
      exact hJ3 σ11 _ _ _ hW (hl) h
    refine b_if h (fun hs13_2 h => ?_) (fun hs13_2 h => ?_)
    · refine lv_lookup (tgt := 82) (off := 69) hx hb dX9_readItem_13 (by decide) (by rw [hs13_2]; decide) (by decide) ?_
      refine lv_aload_n hx hb dX9_readItem_82 rfl (lv_at hl 0 rfl) ?_
      refine lv_aload_n hx hb dX9_readItem_83 rfl (lv_at hl 0 rfl) ?_
      refine va_ldcS hx hb S.2.2.2.1 (hW.lit (List.mem_of_getElem? (i := 2) rfl)) dX9_readItem_84 ?_
      obtain ⟨v14, σ13, h12, h⟩ := bd2_o h
      refine back_i (rest := [.ref (A 25)]) hW (run_V S hW (ct_X9_readSetItem l n G A σ _ 2 (by decide) h12) mi_X9_readSetItem lk_X9_59 (eC_25 G A σ) rfl rfl rfl hl (Nat.le_of_ble_eq_true rfl) dX9_readItem_86 ⟨Nat.le_of_ble_eq_true rfl, Nat.le_of_ble_eq_true rfl⟩ rfl rfl) (fun H locs hW => ?_)
      refine pC_X9_nowRead S hW lk_X9_34 dX9_readItem_89 (fun σ15 H locs eσ15 hW => ?_)
      have h := lt_at eσ15 h
      refine lv_goto (tgt := 110) hx hb dX9_readItem_92 (by decide) ?_
      exact hJ3 σ15 _ _ _ hW (hl) h
    refine b_if h (fun hs13_3 h => ?_) (fun hs13_3 h => ?_)
    · refine lv_lookup (tgt := 56) (off := 43) hx hb dX9_readItem_13 (by decide) (by rw [hs13_3]; decide) (by decide) ?_
      refine lv_aload_n hx hb dX9_readItem_56 rfl (lv_at hl 0 rfl) ?_
      refine lv_aload_n hx hb dX9_readItem_57 rfl (lv_at hl 0 rfl) ?_
      refine va_ldcS hx hb S.2.2.2.1 (hW.lit (List.mem_of_getElem? (i := 0) rfl)) dX9_readItem_58 ?_
      obtain ⟨v18, σ17, h16, h⟩ := bd2_o h
      refine back_i (rest := [.ref (A 25)]) hW (run_V S hW (ct_X9_readSetItem l n G A σ _ 0 (by decide) h16) mi_X9_readSetItem lk_X9_59 (eC_25 G A σ) rfl rfl rfl hl (Nat.le_of_ble_eq_true rfl) dX9_readItem_60 ⟨Nat.le_of_ble_eq_true rfl, Nat.le_of_ble_eq_true rfl⟩ rfl rfl) (fun H locs hW => ?_)
      refine pC_X9_startRead S hW lk_X9_28 dX9_readItem_63 (fun σ19 H locs eσ19 hW => ?_)
      have h := lt_at eσ19 h
      refine lv_goto (tgt := 110) hx hb dX9_readItem_66 (by decide) ?_
      exact hJ3 σ19 _ _ _ hW (hl) h
    refine lv_lookup (tgt := 102) (off := 89) hx hb dX9_readItem_13 (by decide) (by rw [lv_osw hs13_0 (by decide)]; rw [lv_osw hs13_1 (by decide)]; rw [lv_osw hs13_2 (by decide)]; rw [lv_osw hs13_3 (by decide)]; rfl) (by decide) ?_
    refine lv_aload_n hx hb dX9_readItem_102 rfl (lv_at hl 0 rfl) ?_
    refine lv_aload_n hx hb dX9_readItem_103 rfl (lv_at hl 0 rfl) ?_
    refine gC_X9_at S hW lk_X9_15 dX9_readItem_104 ?_
    obtain ⟨σ21, h20, h⟩ := bd_o h
    refine back_v (rest := []) hW (run_V S hW (ct_X9_fail l G A σ _ (gi σ 23) h20) mi_X9_fail lk_X9_70 (eC_25 G A σ) rfl rfl rfl hl (Nat.le_of_ble_eq_true rfl) dX9_readItem_107 ⟨Nat.le_of_ble_eq_true rfl, Nat.le_of_ble_eq_true rfl⟩ rfl rfl) (fun H locs hW => ?_)
    exact hJ3 σ21 _ _ _ hW (hl) h
  · exact ret_vs (wf := wC G A) hret h hW dX9_readItem_8
def rmX9_readAll : Room := { frames := 15, cells := 0, slots := 0, locals := 467 }
def LX9_readAll_48 (n : Nat) (y1 : Nat) (K : SC → Option SC) : Nat → SC → Int32 → Option SC
  | 0, _, _ => none
  | k + 1, σ, y5 => if 160 ≤ y5 then K σ else if (gi σ 24) = (-1) then if (ga σ 19 y1) ≤ (gi σ 23) then K σ else bd (f_X9_expect σ 59) (fun σ12 => bd (f_X9_readItem n σ12) (fun σ14 => lt (y5 + 1) (fun v15 => LX9_readAll_48 n y1 K k σ14 v15))) else K σ
def f_X9_readAll (n : Nat) (σ : SC) (j1 : Nat) (a2 : Int32) (a3 : Int32) (a4 : Int32) : Option SC := lt (st σ (j1 + 1)) (fun σ1 => lt (si σ1 23 0) (fun σ2 => lt (si σ2 24 (-1)) (fun σ3 => lt (si σ3 25 0) (fun σ4 => lt (si σ4 26 0) (fun σ5 => lt (si σ5 27 a2) (fun σ6 => lt (si σ6 28 a3) (fun σ7 => lt (si σ7 29 a4) (fun σ8 => bd (f_X9_readItem n σ8) (fun σ10 => LX9_readAll_48 n j1 (fun σ16 => some σ16) n σ10 0)))))))))
theorem mi_X9_readAll : MI yX9_readAll cX9_readAll 6 none 4 := ⟨im_X9_readAll, se_X9_readAll, in_X9, co_X9_readAll, by decide, by decide, by decide +kernel⟩
set_option maxRecDepth 100000 in
set_option maxHeartbeats 4000000 in
theorem ct_X9_readAll (l : Launch) (n : Nat) (G : EN) (A : Nat → Nat) (σ : SC) (sz : Nat) (j1 : Nat) (a2 : Int32) (a3 : Int32) (a4 : Int32) (hj1 : j1 < 8) {σ0 : SC} (h : f_X9_readAll n σ j1 a2 a3 a4 = some σ0) : CT l yX9_readAll cX9_readAll 6 none rmX9_readAll G sz [.ref (A 25), .ref (A (31 + 2 * j1)), .int a2, .int a3, .int a4] (wC G A σ) (QV G (va_A (wC G A σ) sz) (wC G A σ0)) := by
  unfold f_X9_readAll at h
  refine CV.intro (lv := [(0, .ref (A 25)), (1, .ref (A (31 + 2 * j1))), (2, .int a2), (3, .int a3), (4, .int a4)]) (by decide) (Nat.le_of_ble_eq_true rfl) rfl ?_
  intro p e s m args below meth c Q B S hret H locs ls hW hl
  have hx := S.1
  have hb := S.2.1
  refine lv_aload_n hx hb dX9_readAll_0 rfl (lv_at hl 0 rfl) ?_
  refine lv_aload_n hx hb dX9_readAll_1 rfl (lv_at hl 1 rfl) ?_
  refine pC_X9_text S hW lk_X9_9 dX9_readAll_2 (fun σ1 H locs eσ1 hW => ?_)
  have h := lt_at eσ1 h
  refine lv_aload_n hx hb dX9_readAll_5 rfl (lv_at hl 0 rfl) ?_
  refine lv_iconst (v := 0) hx hb dX9_readAll_6 (by decide) ?_
  refine pC_X9_at S hW lk_X9_15 dX9_readAll_7 (fun σ2 H locs eσ2 hW => ?_)
  have h := lt_at eσ2 h
  refine lv_aload_n hx hb dX9_readAll_10 rfl (lv_at hl 0 rfl) ?_
  refine lv_iconst (v := (-1)) hx hb dX9_readAll_11 (by decide) ?_
  refine pC_X9_faultAt S hW lk_X9_19 dX9_readAll_12 (fun σ3 H locs eσ3 hW => ?_)
  have h := lt_at eσ3 h
  refine lv_aload_n hx hb dX9_readAll_15 rfl (lv_at hl 0 rfl) ?_
  refine lv_iconst (v := 0) hx hb dX9_readAll_16 (by decide) ?_
  refine pC_X9_items S hW lk_X9_22 dX9_readAll_17 (fun σ4 H locs eσ4 hW => ?_)
  have h := lt_at eσ4 h
  refine lv_aload_n hx hb dX9_readAll_20 rfl (lv_at hl 0 rfl) ?_
  refine lv_iconst (v := 0) hx hb dX9_readAll_21 (by decide) ?_
  refine pC_X9_staged S hW lk_X9_25 dX9_readAll_22 (fun σ5 H locs eσ5 hW => ?_)
  have h := lt_at eσ5 h
  refine lv_aload_n hx hb dX9_readAll_25 rfl (lv_at hl 0 rfl) ?_
  refine lv_iload_n hx hb dX9_readAll_26 rfl (lv_at hl 2 rfl) ?_
  refine pC_X9_startRead S hW lk_X9_28 dX9_readAll_27 (fun σ6 H locs eσ6 hW => ?_)
  have h := lt_at eσ6 h
  refine lv_aload_n hx hb dX9_readAll_30 rfl (lv_at hl 0 rfl) ?_
  refine lv_iload_n hx hb dX9_readAll_31 rfl (lv_at hl 3 rfl) ?_
  refine pC_X9_goalRead S hW lk_X9_31 dX9_readAll_32 (fun σ7 H locs eσ7 hW => ?_)
  have h := lt_at eσ7 h
  refine lv_aload_n hx hb dX9_readAll_35 rfl (lv_at hl 0 rfl) ?_
  refine lv_iload hx hb dX9_readAll_36 (lv_at hl 4 rfl) ?_
  refine pC_X9_nowRead S hW lk_X9_34 dX9_readAll_38 (fun σ8 H locs eσ8 hW => ?_)
  have h := lt_at eσ8 h
  refine lv_aload_n hx hb dX9_readAll_41 rfl (lv_at hl 0 rfl) ?_
  obtain ⟨σ10, h9, h⟩ := bd_o h
  refine back_v (rest := []) hW (run_V S hW (ct_X9_readItem l n G A σ8 _ h9) mi_X9_readItem lk_X9_41 (eC_25 G A σ8) rfl rfl rfl hl (Nat.le_of_ble_eq_true rfl) dX9_readAll_42 ⟨Nat.le_of_ble_eq_true rfl, Nat.le_of_ble_eq_true rfl⟩ rfl rfl) (fun H locs hW => ?_)
  refine lv_iconst (v := 0) hx hb dX9_readAll_45 (by decide) ?_
  refine lv_istore (lv' := [(5, .int 0), (0, .ref (A 25)), (1, .ref (A (31 + 2 * j1))), (2, .int a2), (3, .int a3), (4, .int a4)]) hx hb dX9_readAll_46 hl (by decide) rfl (fun ls hl => ?_)
  have hL48 : ∀ (y1 : Nat) (hy1 : y1 < 8) (K : SC → Option SC), (∀ (σ : SC) (H : Heap) (locs : List Loc) (ls : Array Slot), WS G B s (wC G A σ) H locs → lv_has ls 6 [] → K σ = some σ0 → W p l e rmX9_readAll s m args below meth c H locs 0 0 Q (F0 m 91 ls [])) → ∀ (k : Nat) (σ : SC) (y5 : Int32)  (H : Heap) (locs : List Loc) (ls : Array Slot), WS G B s (wC G A σ) H locs → lv_has ls 6 [(0, .ref (A 25)), (1, .ref (A (31 + 2 * y1))), (5, .int y5)] → LX9_readAll_48 n y1 K k σ y5 = some σ0 → W p l e rmX9_readAll s m args below meth c H locs 0 0 Q (F0 m 48 ls []) := by
    intro y1 hy1 K hK k
    induction k with
    | zero => intro σ y5 H locs ls hW hl h; rw [LX9_readAll_48] at h; cases h
    | succ k ih =>
      intro σ y5 H locs ls hW hl h
      rw [LX9_readAll_48] at h
      refine lv_iload hx hb dX9_readAll_48 (lv_at hl 2 rfl) ?_
      refine lv_sipush (v := 160) hx hb dX9_readAll_50 (by decide) ?_
      refine bc_ge (tgt := 91) hx hb h dX9_readAll_53 (by decide) (fun _ h => ?_) (fun _ h => ?_)
      · exact hK σ _ _ _ hW (lv_sub hl [] rfl) h
      · refine lv_aload_n hx hb dX9_readAll_56 rfl (lv_at hl 0 rfl) ?_
        refine gC_X9_faultAt S hW lk_X9_19 dX9_readAll_57 ?_
        refine lv_iconst (v := (-1)) hx hb dX9_readAll_60 (by decide) ?_
        refine bc_ne (tgt := 91) hx hb h dX9_readAll_61 (by decide) (fun _ h => ?_) (fun _ h => ?_)
        · refine lv_aload_n hx hb dX9_readAll_64 rfl (lv_at hl 0 rfl) ?_
          refine gC_X9_at S hW lk_X9_15 dX9_readAll_65 ?_
          refine lv_aload_n hx hb dX9_readAll_68 rfl (lv_at hl 1 rfl) ?_
          refine gC_X8_size hy1 S hW lk_X9_44 dX9_readAll_69 ?_
          refine bc_ge (tgt := 91) hx hb h dX9_readAll_72 (by decide) (fun _ h => ?_) (fun _ h => ?_)
          · exact hK σ _ _ _ hW (lv_sub hl [] rfl) h
          · refine lv_aload_n hx hb dX9_readAll_75 rfl (lv_at hl 0 rfl) ?_
            refine lv_bipush (v := 59) hx hb dX9_readAll_76 (by decide) ?_
            obtain ⟨σ12, h11, h⟩ := bd_o h
            refine back_v (rest := []) hW (run_V S hW (ct_X9_expect l G A σ _ 59 h11) mi_X9_expect lk_X9_49 (eC_25 G A σ) rfl rfl rfl hl (Nat.le_of_ble_eq_true rfl) dX9_readAll_78 ⟨Nat.le_of_ble_eq_true rfl, Nat.le_of_ble_eq_true rfl⟩ rfl rfl) (fun H locs hW => ?_)
            refine lv_aload_n hx hb dX9_readAll_81 rfl (lv_at hl 0 rfl) ?_
            obtain ⟨σ14, h13, h⟩ := bd_o h
            refine back_v (rest := []) hW (run_V S hW (ct_X9_readItem l n G A σ12 _ h13) mi_X9_readItem lk_X9_41 (eC_25 G A σ12) rfl rfl rfl hl (Nat.le_of_ble_eq_true rfl) dX9_readAll_82 ⟨Nat.le_of_ble_eq_true rfl, Nat.le_of_ble_eq_true rfl⟩ rfl rfl) (fun H locs hW => ?_)
            refine w_iinc (lv' := [(0, .ref (A 25)), (1, .ref (A (31 + 2 * y1)))]) hx hb dX9_readAll_85 hl (k := 2) rfl (by decide) (by decide) rfl h (fun v15 ls hl h => ?_)
            refine lv_goto (tgt := 48) hx hb dX9_readAll_88 (by decide) ?_
            exact ih σ14 v15 _ _ _ hW (lv_sub hl [1, 2, 0] rfl) h
        · exact hK σ _ _ _ hW (lv_sub hl [] rfl) h
  refine hL48 j1 hj1 _ (fun σ16 H locs ls hW hl h => ?_) n σ10 0 _ _ _ hW (lv_sub hl [1, 2, 0] rfl) h
  exact ret_vs (wf := wC G A) hret h hW dX9_readAll_91
