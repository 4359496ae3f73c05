def rmX12_valueOf : Room := { frames := 1, cells := 0, slots := 0, locals := 20 }
def LX12_valueOf_5 (σ : SC) (y1 : Int32) (y2 : Int32) (K : Int32 → Option Int32) : Nat → Int32 → Int32 → Option Int32
  | 0, _, _ => none
  | k + 1, y3, y4 => if 30 ≤ y4 then K y3 else if ((y1 >>> (y4 &&& 31)) &&& 1) = 1 then ld (ga σ 5) 30 y4 (fun v2 => if v2 = 100000000 then lt (y4 + 1) (fun v3 => LX12_valueOf_5 σ y1 y2 K k 100000000 v3) else if y3 = 100000000 then lt (y4 + 1) (fun v11 => LX12_valueOf_5 σ y1 y2 K k 100000000 v11) else if y2 = 0 then ld (ga σ 5) 30 y4 (fun v4 => if v4 ≤ y3 then lt (y4 + 1) (fun v5 => LX12_valueOf_5 σ y1 y2 K k y3 v5) else ld (ga σ 5) 30 y4 (fun v6 => lt (y4 + 1) (fun v7 => LX12_valueOf_5 σ y1 y2 K k v6 v7))) else ld (ga σ 5) 30 y4 (fun v8 => lt (f_X12_capped (y3 + v8)) (fun v9 => lt (y4 + 1) (fun v10 => LX12_valueOf_5 σ y1 y2 K k v9 v10)))) else lt (y4 + 1) (fun v1 => LX12_valueOf_5 σ y1 y2 K k y3 v1)
def f_X12_valueOf (n : Nat) (σ : SC) (a1 : Int32) (a2 : Int32) : Option Int32 := LX12_valueOf_5 σ a1 a2 (fun w12 => some w12) n 0 0
theorem mi_X12_valueOf : MI yX12_valueOf cX12_valueOf 5 (some .int) 2 := ⟨im_X12_valueOf, se_X12_valueOf, in_X12, co_X12_valueOf, by decide, by decide, by decide +kernel⟩
set_option maxRecDepth 100000 in
set_option maxHeartbeats 4000000 in
theorem ct_X12_valueOf (l : Launch) (n : Nat) (G : EN) (A : Nat → Nat) (σ : SC) (sz : Nat) (a1 : Int32) (a2 : Int32) {r0 : Int32} (h : f_X12_valueOf n σ a1 a2 = some r0) : CT l yX12_valueOf cX12_valueOf 5 (some .int) rmX12_valueOf G sz [.ref (A 0), .int a1, .int a2] (wM G A σ) (QI G (va_A (wM G A σ) sz) r0 (wM G A σ)) := by
  unfold f_X12_valueOf at h
  refine CI.intro (lv := [(0, .ref (A 0)), (1, .int a1), (2, .int a2)]) (by decide) (Nat.le_of_ble_eq_true rfl) rfl ?_
  intro p e s m args below meth c Q B S hret H locs ls hW hl
  have hx := S.1
  have hb := S.2.1
  refine lv_iconst (v := 0) hx hb dX12_valueOf_0 (by decide) ?_
  refine lv_istore_n (lv' := [(3, .int 0), (0, .ref (A 0)), (1, .int a1), (2, .int a2)]) hx hb dX12_valueOf_1 rfl hl (by decide) rfl (fun ls hl => ?_)
  refine lv_iconst (v := 0) hx hb dX12_valueOf_2 (by decide) ?_
  refine lv_istore (lv' := [(4, .int 0), (3, .int 0), (0, .ref (A 0)), (1, .int a1), (2, .int a2)]) hx hb dX12_valueOf_3 hl (by decide) rfl (fun ls hl => ?_)
  have hL5 : ∀ (y1 : Int32) (y2 : Int32) (K : Int32 → Option Int32), (∀ (z3 : Int32) (H : Heap) (locs : List Loc) (ls : Array Slot), WS G B s (wM G A σ) H locs → lv_has ls 5 [(3, .int z3)] → K z3 = some r0 → W p l e rmX12_valueOf s m args below meth c H locs 0 0 Q (F0 m 94 ls [])) → ∀ (k : Nat)  (y3 : Int32) (y4 : Int32)  (H : Heap) (locs : List Loc) (ls : Array Slot), WS G B s (wM G A σ) H locs → lv_has ls 5 [(0, .ref (A 0)), (1, .int y1), (2, .int y2), (3, .int y3), (4, .int y4)] → LX12_valueOf_5 σ y1 y2 K k y3 y4 = some r0 → W p l e rmX12_valueOf s m args below meth c H locs 0 0 Q (F0 m 5 ls []) := by
    intro y1 y2 K hK k
    induction k with
    | zero => intro y3 y4 H locs ls hW hl h; rw [LX12_valueOf_5] at h; cases h
    | succ k ih =>
      intro y3 y4 H locs ls hW hl h
      rw [LX12_valueOf_5] at h
      refine lv_iload hx hb dX12_valueOf_5 (lv_at hl 4 rfl) ?_
      refine lv_bipush (v := 30) hx hb dX12_valueOf_7 (by decide) ?_
      refine bc_ge (tgt := 94) hx hb h dX12_valueOf_9 (by decide) (fun _ h => ?_) (fun _ h => ?_)
      · exact hK y3 _ _ _ hW (lv_sub hl [3] rfl) h
      · refine lv_iload_n hx hb dX12_valueOf_12 rfl (lv_at hl 1 rfl) ?_
        refine lv_iload hx hb dX12_valueOf_13 (lv_at hl 4 rfl) ?_
        refine lv_ishr hx hb dX12_valueOf_15 ?_
        refine lv_iconst (v := 1) hx hb dX12_valueOf_16 (by decide) ?_
        refine lv_iand hx hb dX12_valueOf_17 ?_
        refine lv_iconst (v := 1) hx hb dX12_valueOf_18 (by decide) ?_
        refine bc_ne (tgt := 88) hx hb h dX12_valueOf_19 (by decide) (fun _ h => ?_) (fun _ h => ?_)
        · refine lv_aload_n hx hb dX12_valueOf_22 rfl (lv_at hl 0 rfl) ?_
          refine gM_value S hW lk_X12_36 dX12_valueOf_23 ?_
          refine lv_iload hx hb dX12_valueOf_26 (lv_at hl 4 rfl) ?_
          refine aM_8 S hW h dX12_valueOf_28 (fun v2 _ h => ?_)
          refine lv_ldc (v := 100000000) hx hb S.2.2.2.1 (S.2.2.2.2 _ lk_X12_183) dX12_valueOf_29 ?_
          refine bc_eq (tgt := 40) hx hb h dX12_valueOf_31 (by decide) (fun _ h => ?_) (fun _ h => ?_)
          · refine lv_ldc (v := 100000000) hx hb S.2.2.2.1 (S.2.2.2.2 _ lk_X12_183) dX12_valueOf_40 ?_
            refine lv_istore_n (lv' := [(3, .int 100000000), (0, .ref (A 0)), (1, .int y1), (2, .int y2), (4, .int y4)]) hx hb dX12_valueOf_42 rfl hl (by decide) rfl (fun ls hl => ?_)
            refine lv_goto (tgt := 88) hx hb dX12_valueOf_43 (by decide) ?_
            refine w_iinc (lv' := [(3, .int 100000000), (0, .ref (A 0)), (1, .int y1), (2, .int y2)]) hx hb dX12_valueOf_88 hl (k := 4) rfl (by decide) (by decide) rfl h (fun v3 ls hl h => ?_)
            refine lv_goto (tgt := 5) hx hb dX12_valueOf_91 (by decide) ?_
            exact ih 100000000 v3 _ _ _ hW (lv_sub hl [2, 3, 4, 1, 0] rfl) h
          · refine lv_iload_n hx hb dX12_valueOf_34 rfl (lv_at hl 3 rfl) ?_
            refine lv_ldc (v := 100000000) hx hb S.2.2.2.1 (S.2.2.2.2 _ lk_X12_183) dX12_valueOf_35 ?_
            refine bc_ne (tgt := 46) hx hb h dX12_valueOf_37 (by decide) (fun _ h => ?_) (fun _ h => ?_)
            · refine lv_ldc (v := 100000000) hx hb S.2.2.2.1 (S.2.2.2.2 _ lk_X12_183) dX12_valueOf_40 ?_
              refine lv_istore_n (lv' := [(3, .int 100000000), (0, .ref (A 0)), (1, .int y1), (2, .int y2), (4, .int y4)]) hx hb dX12_valueOf_42 rfl hl (by decide) rfl (fun ls hl => ?_)
              refine lv_goto (tgt := 88) hx hb dX12_valueOf_43 (by decide) ?_
              refine w_iinc (lv' := [(3, .int 100000000), (0, .ref (A 0)), (1, .int y1), (2, .int y2)]) hx hb dX12_valueOf_88 hl (k := 4) rfl (by decide) (by decide) rfl h (fun v11 ls hl h => ?_)
              refine lv_goto (tgt := 5) hx hb dX12_valueOf_91 (by decide) ?_
              exact ih 100000000 v11 _ _ _ hW (lv_sub hl [2, 3, 4, 1, 0] rfl) h
            · refine lv_iload_n hx hb dX12_valueOf_46 rfl (lv_at hl 2 rfl) ?_
              refine bz_eq (tgt := 65) hx hb h dX12_valueOf_47 (by decide) (fun _ h => ?_) (fun _ h => ?_)
              · refine lv_aload_n hx hb dX12_valueOf_65 rfl (lv_at hl 0 rfl) ?_
                refine gM_value S hW lk_X12_36 dX12_valueOf_66 ?_
                refine lv_iload hx hb dX12_valueOf_69 (lv_at hl 4 rfl) ?_
                refine aM_8 S hW h dX12_valueOf_71 (fun v4 _ h => ?_)
                refine lv_iload_n hx hb dX12_valueOf_72 rfl (lv_at hl 3 rfl) ?_
                refine bc_le (tgt := 86) hx hb h dX12_valueOf_73 (by decide) (fun _ h => ?_) (fun _ h => ?_)
                · refine lv_iload_n hx hb dX12_valueOf_86 rfl (lv_at hl 3 rfl) ?_
                  refine lv_istore_n (lv' := [(3, .int y3), (0, .ref (A 0)), (1, .int y1), (2, .int y2), (4, .int y4)]) hx hb dX12_valueOf_87 rfl hl (by decide) rfl (fun ls hl => ?_)
                  refine w_iinc (lv' := [(3, .int y3), (0, .ref (A 0)), (1, .int y1), (2, .int y2)]) hx hb dX12_valueOf_88 hl (k := 4) rfl (by decide) (by decide) rfl h (fun v5 ls hl h => ?_)
                  refine lv_goto (tgt := 5) hx hb dX12_valueOf_91 (by decide) ?_
                  exact ih y3 v5 _ _ _ hW (lv_sub hl [2, 3, 4, 1, 0] rfl) h
                · refine lv_aload_n hx hb dX12_valueOf_76 rfl (lv_at hl 0 rfl) ?_
                  refine gM_value S hW lk_X12_36 dX12_valueOf_77 ?_
                  refine lv_iload hx hb dX12_valueOf_80 (lv_at hl 4 rfl) ?_
                  refine aM_8 S hW h dX12_valueOf_82 (fun v6 _ h => ?_)
                  refine lv_goto (tgt := 87) hx hb dX12_valueOf_83 (by decide) ?_
                  refine lv_istore_n (lv' := [(3, .int v6), (0, .ref (A 0)), (1, .int y1), (2, .int y2), (4, .int y4)]) hx hb dX12_valueOf_87 rfl hl (by decide) rfl (fun ls hl => ?_)
                  refine w_iinc (lv' := [(3, .int v6), (0, .ref (A 0)), (1, .int y1), (2, .int y2)]) hx hb dX12_valueOf_88 hl (k := 4) rfl (by decide) (by decide) rfl h (fun v7 ls hl h => ?_)
                  refine lv_goto (tgt := 5) hx hb dX12_valueOf_91 (by decide) ?_
                  exact ih v6 v7 _ _ _ hW (lv_sub hl [2, 3, 4, 1, 0] rfl) h
              · refine lv_iload_n hx hb dX12_valueOf_50 rfl (lv_at hl 3 rfl) ?_
                refine lv_aload_n hx hb dX12_valueOf_51 rfl (lv_at hl 0 rfl) ?_
                refine gM_value S hW lk_X12_36 dX12_valueOf_52 ?_
                refine lv_iload hx hb dX12_valueOf_55 (lv_at hl 4 rfl) ?_
                refine aM_8 S hW h dX12_valueOf_57 (fun v8 _ h => ?_)
                refine lv_iadd hx hb dX12_valueOf_58 ?_
                refine back_i (rest := []) hW (run_S S hW (ct_X12_capped l G A σ _ (y3 + v8) rfl) ms_X12_capped lk_X12_185 rfl rfl hl (Nat.le_of_ble_eq_true rfl) dX12_valueOf_59 ⟨Nat.le_of_ble_eq_true rfl, Nat.le_of_ble_eq_true rfl⟩ rfl rfl) (fun H locs hW => ?_)
                refine lv_goto (tgt := 87) hx hb dX12_valueOf_62 (by decide) ?_
                refine nm_i h (fun v9 h => ?_)
                refine lv_istore_n (lv' := [(3, .int v9), (0, .ref (A 0)), (1, .int y1), (2, .int y2), (4, .int y4)]) hx hb dX12_valueOf_87 rfl hl (by decide) rfl (fun ls hl => ?_)
                refine w_iinc (lv' := [(3, .int v9), (0, .ref (A 0)), (1, .int y1), (2, .int y2)]) hx hb dX12_valueOf_88 hl (k := 4) rfl (by decide) (by decide) rfl h (fun v10 ls hl h => ?_)
                refine lv_goto (tgt := 5) hx hb dX12_valueOf_91 (by decide) ?_
                exact ih v9 v10 _ _ _ hW (lv_sub hl [2, 3, 4, 1, 0] rfl) h
        · refine w_iinc (lv' := [(0, .ref (A 0)), (1, .int y1), (2, .int y2), (3, .int y3)]) hx hb dX12_valueOf_88 hl (k := 4) rfl (by decide) (by decide) rfl h (fun v1 ls hl h => ?_)
          refine lv_goto (tgt := 5) hx hb dX12_valueOf_91 (by decide) ?_
          exact ih y3 v1 _ _ _ hW (lv_sub hl [1, 2, 3, 4, 0] rfl) h
  refine hL5 a1 a2 _ (fun w12 H locs ls hW hl h => ?_) n 0 0 _ _ _ hW (lv_sub hl [2, 3, 4, 1, 0] rfl) h
  refine lv_iload_n hx hb dX12_valueOf_94 rfl (lv_at hl 0 rfl) ?_
  exact hret H locs _ ls _ (Option.some.inj h) rfl hW dX12_valueOf_95
def rmX12_valueBy : Room := { frames := 2, cells := 0, slots := 0, locals := 44 }
def f_X12_valueBy (n : Nat) (σ : SC) (a1 : Int32) (a2 : Int32) : Option Int32 := ld (ga σ 0) 173 (0 + a1) (fun v1 => bd (f_X12_valueOf n σ v1 a2) (fun v3 => if v3 = 100000000 then some 100000000 else ld (ga σ 0) 173 (72 + a1) (fun v4 => some (f_X12_capped (v3 + v4)))))
theorem mi_X12_valueBy : MI yX12_valueBy cX12_valueBy 4 (some .int) 2 := ⟨im_X12_valueBy, se_X12_valueBy, in_X12, co_X12_valueBy, by decide, by decide, by decide +kernel⟩
set_option maxRecDepth 100000 in
set_option maxHeartbeats 4000000 in
theorem ct_X12_valueBy (l : Launch) (n : Nat) (G : EN) (A : Nat → Nat) (σ : SC) (sz : Nat) (a1 : Int32) (a2 : Int32) {r0 : Int32} (h : f_X12_valueBy n σ a1 a2 = some r0) : CT l yX12_valueBy cX12_valueBy 4 (some .int) rmX12_valueBy G sz [.ref (A 0), .int a1, .int a2] (wM G A σ) (QI G (va_A (wM G A σ) sz) r0 (wM G A σ)) := by
  unfold f_X12_valueBy at h
  refine CI.intro (lv := [(0, .ref (A 0)), (1, .int a1), (2, .int a2)]) (by decide) (Nat.le_of_ble_eq_true rfl) rfl ?_
  intro p e s m args below meth c Q B S hret H locs ls hW hl
  have hx := S.1
  have hb := S.2.1
  refine lv_aload_n hx hb dX12_valueBy_0 rfl (lv_at hl 0 rfl) ?_
  refine lv_aload_n hx hb dX12_valueBy_1 rfl (lv_at hl 0 rfl) ?_
  refine gM_s S hW lk_X12_7 dX12_valueBy_2 ?_
  refine lv_iconst (v := 0) hx hb dX12_valueBy_5 (by decide) ?_
  refine lv_iload_n hx hb dX12_valueBy_6 rfl (lv_at hl 1 rfl) ?_
  refine lv_iadd hx hb dX12_valueBy_7 ?_
  refine aM_1 S hW h dX12_valueBy_8 (fun v1 _ h => ?_)
  refine lv_iload_n hx hb dX12_valueBy_9 rfl (lv_at hl 2 rfl) ?_
  obtain ⟨v3, h2, h⟩ := bd_o h
  refine back_i (rest := []) hW (run_V S hW (ct_X12_valueOf l n G A σ _ v1 a2 h2) mi_X12_valueOf lk_X12_188 (eM_0 G A σ) rfl rfl rfl hl (Nat.le_of_ble_eq_true rfl) dX12_valueBy_10 ⟨Nat.le_of_ble_eq_true rfl, Nat.le_of_ble_eq_true rfl⟩ rfl rfl) (fun H locs hW => ?_)
  refine lv_istore_n (lv' := [(3, .int v3), (0, .ref (A 0)), (1, .int a1), (2, .int a2)]) hx hb dX12_valueBy_13 rfl hl (by decide) rfl (fun ls hl => ?_)
  refine lv_iload_n hx hb dX12_valueBy_14 rfl (lv_at hl 0 rfl) ?_
  refine lv_ldc (v := 100000000) hx hb S.2.2.2.1 (S.2.2.2.2 _ lk_X12_183) dX12_valueBy_15 ?_
  refine bc_ne (tgt := 25) hx hb h dX12_valueBy_17 (by decide) (fun _ h => ?_) (fun _ h => ?_)
  · refine lv_ldc (v := 100000000) hx hb S.2.2.2.1 (S.2.2.2.2 _ lk_X12_183) dX12_valueBy_20 ?_
    refine lv_goto (tgt := 39) hx hb dX12_valueBy_22 (by decide) ?_
    exact hret H locs _ ls _ (Option.some.inj h) rfl hW dX12_valueBy_39
  · refine lv_iload_n hx hb dX12_valueBy_25 rfl (lv_at hl 0 rfl) ?_
    refine lv_aload_n hx hb dX12_valueBy_26 rfl (lv_at hl 1 rfl) ?_
    refine gM_s S hW lk_X12_7 dX12_valueBy_27 ?_
    refine lv_bipush (v := 72) hx hb dX12_valueBy_30 (by decide) ?_
    refine lv_iload_n hx hb dX12_valueBy_32 rfl (lv_at hl 2 rfl) ?_
    refine lv_iadd hx hb dX12_valueBy_33 ?_
    refine aM_1 S hW h dX12_valueBy_34 (fun v4 _ h => ?_)
    refine lv_iadd hx hb dX12_valueBy_35 ?_
    refine back_i (rest := []) hW (run_S S hW (ct_X12_capped l G A σ _ (v3 + v4) rfl) ms_X12_capped lk_X12_185 rfl rfl hl (Nat.le_of_ble_eq_true rfl) dX12_valueBy_36 ⟨Nat.le_of_ble_eq_true rfl, Nat.le_of_ble_eq_true rfl⟩ rfl rfl) (fun H locs hW => ?_)
    exact hret H locs _ ls _ (Option.some.inj h) rfl hW dX12_valueBy_39
def rmX12_values : Room := { frames := 3, cells := 0, slots := 0, locals := 67 }
def LX12_values_2 (y1 : Int32) (K : SC → Option SC) : Nat → SC → Int32 → Option SC
  | 0, _, _ => none
  | k + 1, σ, y3 => if 30 ≤ y3 then K σ else if ((y1 >>> (y3 &&& 31)) &&& 1) = 1 then ck 30 y3 (lt (sa σ 5 (upd (ga σ 5) y3.toNatClampNeg 0)) (fun σ3 => lt (y3 + 1) (fun v4 => LX12_values_2 y1 K k σ3 v4))) else ck 30 y3 (lt (sa σ 5 (upd (ga σ 5) y3.toNatClampNeg 100000000)) (fun σ1 => lt (y3 + 1) (fun v2 => LX12_values_2 y1 K k σ1 v2)))
def LX12_values_71 (y4 : Int32) (y5 : Int32) (K : SC → Int32 → Option SC) : Nat → SC → Int32 → Int32 → Option SC
  | 0, _, _, _ => none
  | k + 1, σ, y3, y6 => if 30 ≤ y6 then K σ y3 else ld (ga σ 0) 173 (24 + y4) (fun v9 => jn (fun (u11 : Int32) => jn (fun (u13 : Int32) => ck 30 y6 (lt (sa σ 5 (upd (ga σ 5) y6.toNatClampNeg u13)) (fun σ14 => if y3 = 0 then if u11 = 0 then lt (y6 + 1) (fun v16 => LX12_values_71 y4 y5 K k σ14 0 v16) else lt (y6 + 1) (fun v17 => LX12_values_71 y4 y5 K k σ14 1 v17) else lt (y6 + 1) (fun v15 => LX12_values_71 y4 y5 K k σ14 1 v15)))) (fun J12 => if u11 = 0 then ld (ga σ 5) 30 y6 (fun v18 => J12 v18) else J12 y5)) (fun J10 => if ((v9 >>> (y6 &&& 31)) &&& 1) = 1 then ld (ga σ 5) 30 y6 (fun v19 => if v19 ≤ y5 then J10 0 else J10 1) else J10 0))
def LX12_values_46 (n : Nat) (y2 : Int32) (K : SC → Int32 → Option SC) : Nat → SC → Int32 → Int32 → Option SC
  | 0, _, _, _ => none
  | k + 1, σ, y3, y4 => ld (ga σ 0) 173 172 (fun v6 => if v6 ≤ y4 then K σ y3 else bd (f_X12_valueBy n σ y4 y2) (fun v8 => LX12_values_71 y4 v8 (fun σ20 w21 => lt (y4 + 1) (fun v22 => LX12_values_46 n y2 K k σ20 w21 v22)) n σ y3 0))
def LX12_values_37 (n : Nat) (y2 : Int32) (K : SC → Option SC) : Nat → SC → Int32 → Option SC
  | 0, _, _ => none
  | k + 1, σ, y3 => if y3 = 0 then K σ else LX12_values_46 n y2 (fun σ23 w24 => LX12_values_37 n y2 K k σ23 w24) n σ 0 0
def f_X12_values (n : Nat) (σ : SC) (a1 : Int32) (a2 : Int32) : Option SC := LX12_values_2 a1 (fun σ5 => LX12_values_37 n a2 (fun σ25 => some σ25) n σ5 1) n σ 0
theorem mi_X12_values : MI yX12_values cX12_values 8 none 2 := ⟨im_X12_values, se_X12_values, in_X12, co_X12_values, by decide, by decide, by decide +kernel⟩
set_option maxRecDepth 100000 in
set_option maxHeartbeats 4000000 in
theorem ct_X12_values (l : Launch) (n : Nat) (G : EN) (A : Nat → Nat) (σ : SC) (sz : Nat) (a1 : Int32) (a2 : Int32) {σ0 : SC} (h : f_X12_values n σ a1 a2 = some σ0) : CT l yX12_values cX12_values 8 none rmX12_values G sz [.ref (A 0), .int a1, .int a2] (wM G A σ) (QV G (va_A (wM G A σ) sz) (wM G A σ0)) := by
  unfold f_X12_values at h
  refine CV.intro (lv := [(0, .ref (A 0)), (1, .int a1), (2, .int a2)]) (by decide) (Nat.le_of_ble_eq_true rfl) rfl ?_
  intro p e s m args below meth c Q B S hret H locs ls hW hl
  have hx := S.1
  have hb := S.2.1
  refine lv_iconst (v := 0) hx hb dX12_values_0 (by decide) ?_
  refine lv_istore_n (lv' := [(3, .int 0), (0, .ref (A 0)), (1, .int a1), (2, .int a2)]) hx hb dX12_values_1 rfl hl (by decide) rfl (fun ls hl => ?_)
  have hL2 : ∀ (y1 : Int32) (y2 : Int32) (K : SC → Option SC), (∀ (σ : SC) (H : Heap) (locs : List Loc) (ls : Array Slot), WS G B s (wM G A σ) H locs → lv_has ls 8 [(0, .ref (A 0)), (2, .int y2)] → K σ = some σ0 → W p l e rmX12_values s m args below meth c H locs 0 0 Q (F0 m 35 ls [])) → ∀ (k : Nat) (σ : SC) (y3 : Int32)  (H : Heap) (locs : List Loc) (ls : Array Slot), WS G B s (wM G A σ) H locs → lv_has ls 8 [(0, .ref (A 0)), (1, .int y1), (2, .int y2), (3, .int y3)] → LX12_values_2 y1 K k σ y3 = some σ0 → W p l e rmX12_values s m args below meth c H locs 0 0 Q (F0 m 2 ls []) := by
    intro y1 y2 K hK k
    induction k with
    | zero => intro σ y3 H locs ls hW hl h; rw [LX12_values_2] at h; cases h
    | succ k ih =>
      intro σ y3 H locs ls hW hl h
      rw [LX12_values_2] at h
      refine lv_iload_n hx hb dX12_values_2 rfl (lv_at hl 3 rfl) ?_
      refine lv_bipush (v := 30) hx hb dX12_values_3 (by decide) ?_
      refine bc_ge (tgt := 35) hx hb h dX12_values_5 (by decide) (fun _ h => ?_) (fun _ h => ?_)
      · exact hK σ _ _ _ hW (lv_sub hl [0, 2] rfl) h
      · refine lv_aload_n hx hb dX12_values_8 rfl (lv_at hl 0 rfl) ?_
        refine gM_value S hW lk_X12_36 dX12_values_9 ?_
        refine lv_iload_n hx hb dX12_values_12 rfl (lv_at hl 3 rfl) ?_
        refine lv_iload_n hx hb dX12_values_13 rfl (lv_at hl 1 rfl) ?_
        refine lv_iload_n hx hb dX12_values_14 rfl (lv_at hl 3 rfl) ?_
        refine lv_ishr hx hb dX12_values_15 ?_
        refine lv_iconst (v := 1) hx hb dX12_values_16 (by decide) ?_
        refine lv_iand hx hb dX12_values_17 ?_
        refine lv_iconst (v := 1) hx hb dX12_values_18 (by decide) ?_
        refine bc_ne (tgt := 26) hx hb h dX12_values_19 (by decide) (fun _ h => ?_) (fun _ h => ?_)
        · refine lv_iconst (v := 0) hx hb dX12_values_22 (by decide) ?_
          refine lv_goto (tgt := 28) hx hb dX12_values_23 (by decide) ?_
          refine sM_8 S hW h dX12_values_28 (fun σ3 H locs eσ3 _ h hW => ?_)
          have h := lt_at eσ3 h
          refine w_iinc (lv' := [(0, .ref (A 0)), (1, .int y1), (2, .int y2)]) hx hb dX12_values_29 hl (k := 3) rfl (by decide) (by decide) rfl h (fun v4 ls hl h => ?_)
          refine lv_goto (tgt := 2) hx hb dX12_values_32 (by decide) ?_
          exact ih σ3 v4 _ _ _ hW (lv_sub hl [1, 2, 3, 0] rfl) h
        · refine lv_ldc (v := 100000000) hx hb S.2.2.2.1 (S.2.2.2.2 _ lk_X12_183) dX12_values_26 ?_
          refine sM_8 S hW h dX12_values_28 (fun σ1 H locs eσ1 _ h hW => ?_)
          have h := lt_at eσ1 h
          refine w_iinc (lv' := [(0, .ref (A 0)), (1, .int y1), (2, .int y2)]) hx hb dX12_values_29 hl (k := 3) rfl (by decide) (by decide) rfl h (fun v2 ls hl h => ?_)
          refine lv_goto (tgt := 2) hx hb dX12_values_32 (by decide) ?_
          exact ih σ1 v2 _ _ _ hW (lv_sub hl [1, 2, 3, 0] rfl) h
  refine hL2 a1 a2 _ (fun σ5 H locs ls hW hl h => ?_) n σ 0 _ _ _ hW (lv_sub hl [1, 2, 3, 0] rfl) h
  refine lv_iconst (v := 1) hx hb dX12_values_35 (by decide) ?_
  refine lv_istore_n (lv' := [(3, .int 1), (0, .ref (A 0)), (2, .int a2)]) hx hb dX12_values_36 rfl hl (by decide) rfl (fun ls hl => ?_)
  have hL37 : ∀ (y2 : Int32) (K : SC → Option SC), (∀ (σ : SC) (H : Heap) (locs : List Loc) (ls : Array Slot), WS G B s (wM G A σ) H locs → lv_has ls 8 [] → K σ = some σ0 → W p l e rmX12_values s m args below meth c H locs 0 0 Q (F0 m 170 ls [])) → ∀ (k : Nat) (σ : SC) (y3 : Int32)  (H : Heap) (locs : List Loc) (ls : Array Slot), WS G B s (wM G A σ) H locs → lv_has ls 8 [(0, .ref (A 0)), (2, .int y2), (3, .int y3)] → LX12_values_37 n y2 K k σ y3 = some σ0 → W p l e rmX12_values s m args below meth c H locs 0 0 Q (F0 m 37 ls []) := by
    intro y2 K hK k
    induction k with
    | zero => intro σ y3 H locs ls hW hl h; rw [LX12_values_37] at h; cases h
    | succ k ih =>
      intro σ y3 H locs ls hW hl h
      rw [LX12_values_37] at h
      refine lv_iload_n hx hb dX12_values_37 rfl (lv_at hl 2 rfl) ?_
      refine bz_eq (tgt := 170) hx hb h dX12_values_38 (by decide) (fun _ h => ?_) (fun _ h => ?_)
      · exact hK σ _ _ _ hW (lv_sub hl [] rfl) h
      · refine lv_iconst (v := 0) hx hb dX12_values_41 (by decide) ?_
        refine lv_istore_n (lv' := [(3, .int 0), (0, .ref (A 0)), (2, .int y2)]) hx hb dX12_values_42 rfl hl (by decide) rfl (fun ls hl => ?_)
        refine lv_iconst (v := 0) hx hb dX12_values_43 (by decide) ?_
        refine lv_istore (lv' := [(4, .int 0), (3, .int 0), (0, .ref (A 0)), (2, .int y2)]) hx hb dX12_values_44 hl (by decide) rfl (fun ls hl => ?_)
        have hL46 : ∀ (y2 : Int32) (K : SC → Int32 → Option SC), (∀ (σ : SC) (z3 : Int32) (H : Heap) (locs : List Loc) (ls : Array Slot), WS G B s (wM G A σ) H locs → lv_has ls 8 [(0, .ref (A 0)), (2, .int y2), (3, .int z3)] → K σ z3 = some σ0 → W p l e rmX12_values s m args below meth c H locs 0 0 Q (F0 m 37 ls [])) → ∀ (k : Nat) (σ : SC) (y3 : Int32) (y4 : Int32)  (H : Heap) (locs : List Loc) (ls : Array Slot), WS G B s (wM G A σ) H locs → lv_has ls 8 [(0, .ref (A 0)), (2, .int y2), (3, .int y3), (4, .int y4)] → LX12_values_46 n y2 K k σ y3 y4 = some σ0 → W p l e rmX12_values s m args below meth c H locs 0 0 Q (F0 m 46 ls []) := by
          intro y2 K hK k
          induction k with
          | zero => intro σ y3 y4 H locs ls hW hl h; rw [LX12_values_46] at h; cases h
          | succ k ih =>
            intro σ y3 y4 H locs ls hW hl h
            rw [LX12_values_46] at h
            refine lv_iload hx hb dX12_values_46 (lv_at hl 3 rfl) ?_
            refine lv_aload_n hx hb dX12_values_48 rfl (lv_at hl 0 rfl) ?_
            refine gM_s S hW lk_X12_7 dX12_values_49 ?_
            refine lv_sipush (v := 172) hx hb dX12_values_52 (by decide) ?_
            refine aM_1 S hW h dX12_values_55 (fun v6 _ h => ?_)
            refine bc_ge (tgt := 167) hx hb h dX12_values_56 (by decide) (fun _ h => ?_) (fun _ h => ?_)
            · refine lv_goto (tgt := 37) hx hb dX12_values_167 (by decide) ?_
              exact hK σ y3 _ _ _ hW (lv_sub hl [0, 1, 2] rfl) h
            · refine lv_aload_n hx hb dX12_values_59 rfl (lv_at hl 0 rfl) ?_
              refine lv_iload hx hb dX12_values_60 (lv_at hl 3 rfl) ?_
              refine lv_iload_n hx hb dX12_values_62 rfl (lv_at hl 1 rfl) ?_
              obtain ⟨v8, h7, h⟩ := bd_o h
              refine back_i (rest := []) hW (run_V S hW (ct_X12_valueBy l n G A σ _ y4 y2 h7) mi_X12_valueBy lk_X12_192 (eM_0 G A σ) rfl rfl rfl hl (Nat.le_of_ble_eq_true rfl) dX12_values_63 ⟨Nat.le_of_ble_eq_true rfl, Nat.le_of_ble_eq_true rfl⟩ rfl rfl) (fun H locs hW => ?_)
              refine lv_istore (lv' := [(5, .int v8), (0, .ref (A 0)), (2, .int y2), (3, .int y3), (4, .int y4)]) hx hb dX12_values_66 hl (by decide) rfl (fun ls hl => ?_)
              refine lv_iconst (v := 0) hx hb dX12_values_68 (by decide) ?_
              refine lv_istore (lv' := [(6, .int 0), (5, .int v8), (0, .ref (A 0)), (2, .int y2), (3, .int y3), (4, .int y4)]) hx hb dX12_values_69 hl (by decide) rfl (fun ls hl => ?_)
              have hL71 : ∀ (y2 : Int32) (y4 : Int32) (y5 : Int32) (K : SC → Int32 → Option SC), (∀ (σ : SC) (z3 : Int32) (H : Heap) (locs : List Loc) (ls : Array Slot), WS G B s (wM G A σ) H locs → lv_has ls 8 [(0, .ref (A 0)), (2, .int y2), (3, .int z3), (4, .int y4)] → K σ z3 = some σ0 → W p l e rmX12_values s m args below meth c H locs 0 0 Q (F0 m 161 ls [])) → ∀ (k : Nat) (σ : SC) (y3 : Int32) (y6 : Int32)  (H : Heap) (locs : List Loc) (ls : Array Slot), WS G B s (wM G A σ) H locs → lv_has ls 8 [(0, .ref (A 0)), (2, .int y2), (3, .int y3), (4, .int y4), (5, .int y5), (6, .int y6)] → LX12_values_71 y4 y5 K k σ y3 y6 = some σ0 → W p l e rmX12_values s m args below meth c H locs 0 0 Q (F0 m 71 ls []) := by
                intro y2 y4 y5 K hK k
                induction k with
                | zero => intro σ y3 y6 H locs ls hW hl h; rw [LX12_values_71] at h; cases h
                | succ k ih =>
                  intro σ y3 y6 H locs ls hW hl h
                  rw [LX12_values_71] at h
                  refine lv_iload hx hb dX12_values_71 (lv_at hl 5 rfl) ?_
                  refine lv_bipush (v := 30) hx hb dX12_values_73 (by decide) ?_
                  refine bc_ge (tgt := 161) hx hb h dX12_values_75 (by decide) (fun _ h => ?_) (fun _ h => ?_)
                  · exact hK σ y3 _ _ _ hW (lv_sub hl [0, 1, 2, 3] rfl) h
                  · refine lv_aload_n hx hb dX12_values_78 rfl (lv_at hl 0 rfl) ?_
                    refine gM_s S hW lk_X12_7 dX12_values_79 ?_
                    refine lv_bipush (v := 24) hx hb dX12_values_82 (by decide) ?_
                    refine lv_iload hx hb dX12_values_84 (lv_at hl 3 rfl) ?_
                    refine lv_iadd hx hb dX12_values_86 ?_
                    refine aM_1 S hW h dX12_values_87 (fun v9 _ h => ?_)
                    refine lv_iload hx hb dX12_values_88 (lv_at hl 5 rfl) ?_
                    refine lv_ishr hx hb dX12_values_90 ?_
                    refine lv_iconst (v := 1) hx hb dX12_values_91 (by decide) ?_
                    refine lv_iand hx hb dX12_values_92 ?_
                    refine lv_iconst (v := 1) hx hb dX12_values_93 (by decide) ?_
                    obtain ⟨J10, eJ10, h⟩ := jn_o h
                    have hJ10 : ∀ (u11 : Int32)  (H : Heap) (locs : List Loc) (ls : Array Slot), WS G B s (wM G A σ) H locs → lv_has ls 8 [(0, .ref (A 0)), (2, .int y2), (3, .int y3), (4, .int y4), (5, .int y5), (6, .int y6)] → J10 u11 = some σ0 → W p l e rmX12_values s m args below meth c H locs 0 0 Q (F0 m 114 ls [.int u11]) := by
                      subst eJ10
                      intro u11 H locs ls hW hl h
                      refine lv_istore (lv' := [(7, .int u11), (0, .ref (A 0)), (2, .int y2), (3, .int y3), (4, .int y4), (5, .int y5), (6, .int y6)]) hx hb dX12_values_114 hl (by decide) rfl (fun ls hl => ?_)
                      refine lv_aload_n hx hb dX12_values_116 rfl (lv_at hl 1 rfl) ?_
                      refine gM_value S hW lk_X12_36 dX12_values_117 ?_
                      refine lv_iload hx hb dX12_values_120 (lv_at hl 6 rfl) ?_
                      refine lv_iload hx hb dX12_values_122 (lv_at hl 0 rfl) ?_
                      obtain ⟨J12, eJ12, h⟩ := jn_o h
                      have hJ12 : ∀ (u13 : Int32)  (H : Heap) (locs : List Loc) (ls : Array Slot), WS G B s (wM G A σ) H locs → lv_has ls 8 [(0, .ref (A 0)), (2, .int y2), (3, .int y3), (4, .int y4), (5, .int y5), (6, .int y6), (7, .int u11)] → J12 u13 = some σ0 → W p l e rmX12_values s m args below meth c H locs 0 0 Q (F0 m 139 ls [.int u13, .int y6, .ref (A 8)]) := by
                        subst eJ12
                        intro u13 H locs ls hW hl h
                        refine sM_8 S hW h dX12_values_139 (fun σ14 H locs eσ14 _ h hW => ?_)
                        have h := lt_at eσ14 h
                        refine lv_iload_n hx hb dX12_values_140 rfl (lv_at hl 2 rfl) ?_
                        refine bz_ne (tgt := 149) hx hb h dX12_values_141 (by decide) (fun _ h => ?_) (fun _ h => ?_)
                        · refine lv_iload hx hb dX12_values_144 (lv_at hl 6 rfl) ?_
                          refine bz_eq (tgt := 153) hx hb h dX12_values_146 (by decide) (fun _ h => ?_) (fun _ h => ?_)
                          · refine lv_iconst (v := 0) hx hb dX12_values_153 (by decide) ?_
                            refine lv_istore_n (lv' := [(3, .int 0), (0, .ref (A 0)), (2, .int y2), (4, .int y4), (5, .int y5), (6, .int y6), (7, .int u11)]) hx hb dX12_values_154 rfl hl (by decide) rfl (fun ls hl => ?_)
                            refine w_iinc (lv' := [(3, .int 0), (0, .ref (A 0)), (2, .int y2), (4, .int y4), (5, .int y5), (7, .int u11)]) hx hb dX12_values_155 hl (k := 5) rfl (by decide) (by decide) rfl h (fun v16 ls hl h => ?_)
                            refine lv_goto (tgt := 71) hx hb dX12_values_158 (by decide) ?_
                            exact ih σ14 0 v16 _ _ _ hW (lv_sub hl [2, 3, 1, 4, 5, 0] rfl) h
                          · refine lv_iconst (v := 1) hx hb dX12_values_149 (by decide) ?_
                            refine lv_goto (tgt := 154) hx hb dX12_values_150 (by decide) ?_
                            refine lv_istore_n (lv' := [(3, .int 1), (0, .ref (A 0)), (2, .int y2), (4, .int y4), (5, .int y5), (6, .int y6), (7, .int u11)]) hx hb dX12_values_154 rfl hl (by decide) rfl (fun ls hl => ?_)
                            refine w_iinc (lv' := [(3, .int 1), (0, .ref (A 0)), (2, .int y2), (4, .int y4), (5, .int y5), (7, .int u11)]) hx hb dX12_values_155 hl (k := 5) rfl (by decide) (by decide) rfl h (fun v17 ls hl h => ?_)
                            refine lv_goto (tgt := 71) hx hb dX12_values_158 (by decide) ?_
                            exact ih σ14 1 v17 _ _ _ hW (lv_sub hl [2, 3, 1, 4, 5, 0] rfl) h
                        · refine lv_iconst (v := 1) hx hb dX12_values_149 (by decide) ?_
                          refine lv_goto (tgt := 154) hx hb dX12_values_150 (by decide) ?_
                          refine lv_istore_n (lv' := [(3, .int 1), (0, .ref (A 0)), (2, .int y2), (4, .int y4), (5, .int y5), (6, .int y6), (7, .int u11)]) hx hb dX12_values_154 rfl hl (by decide) rfl (fun ls hl => ?_)
                          refine w_iinc (lv' := [(3, .int 1), (0, .ref (A 0)), (2, .int y2), (4, .int y4), (5, .int y5), (7, .int u11)]) hx hb dX12_values_155 hl (k := 5) rfl (by decide) (by decide) rfl h (fun v15 ls hl h => ?_)
                          refine lv_goto (tgt := 71) hx hb dX12_values_158 (by decide) ?_
                          exact ih σ14 1 v15 _ _ _ hW (lv_sub hl [2, 3, 1, 4, 5, 0] rfl) h
                      clear eJ12
                      refine bz_eq (tgt := 132) hx hb h dX12_values_124 (by decide) (fun _ h => ?_) (fun _ h => ?_)
                      · refine lv_aload_n hx hb dX12_values_132 rfl (lv_at hl 1 rfl) ?_
                        refine gM_value S hW lk_X12_36 dX12_values_133 ?_
                        refine lv_iload hx hb dX12_values_136 (lv_at hl 6 rfl) ?_
                        refine aM_8 S hW h dX12_values_138 (fun v18 _ h => ?_)
                        exact hJ12 v18 _ _ _ hW (lv_sub hl [1, 2, 3, 4, 5, 6, 0] rfl) h
                      · refine lv_iload hx hb dX12_values_127 (lv_at hl 5 rfl) ?_
                        refine lv_goto (tgt := 139) hx hb dX12_values_129 (by decide) ?_
                        exact hJ12 y5 _ _ _ hW (lv_sub hl [1, 2, 3, 4, 5, 6, 0] rfl) h
                    clear eJ10
                    refine bc_ne (tgt := 113) hx hb h dX12_values_94 (by decide) (fun _ h => ?_) (fun _ h => ?_)
                    · refine lv_iload hx hb dX12_values_97 (lv_at hl 4 rfl) ?_
                      refine lv_aload_n hx hb dX12_values_99 rfl (lv_at hl 0 rfl) ?_
                      refine gM_value S hW lk_X12_36 dX12_values_100 ?_
                      refine lv_iload hx hb dX12_values_103 (lv_at hl 5 rfl) ?_
                      refine aM_8 S hW h dX12_values_105 (fun v19 _ h => ?_)
                      refine bc_ge (tgt := 113) hx hb h dX12_values_106 (by decide) (fun _ h => ?_) (fun _ h => ?_)
                      · refine lv_iconst (v := 0) hx hb dX12_values_113 (by decide) ?_
                        exact hJ10 0 _ _ _ hW (hl) h
                      · refine lv_iconst (v := 1) hx hb dX12_values_109 (by decide) ?_
                        refine lv_goto (tgt := 114) hx hb dX12_values_110 (by decide) ?_
                        exact hJ10 1 _ _ _ hW (hl) h
                    · refine lv_iconst (v := 0) hx hb dX12_values_113 (by decide) ?_
                      exact hJ10 0 _ _ _ hW (hl) h
              refine hL71 y2 y4 v8 _ (fun σ20 w21 H locs ls hW hl h => ?_) n σ y3 0 _ _ _ hW (lv_sub hl [2, 3, 4, 5, 1, 0] rfl) h
              refine w_iinc (lv' := [(0, .ref (A 0)), (2, .int y2), (3, .int w21)]) hx hb dX12_values_161 hl (k := 3) rfl (by decide) (by decide) rfl h (fun v22 ls hl h => ?_)
              refine lv_goto (tgt := 46) hx hb dX12_values_164 (by decide) ?_
              exact ih σ20 w21 v22 _ _ _ hW (lv_sub hl [1, 2, 3, 0] rfl) h
        refine hL46 y2 _ (fun σ23 w24 H locs ls hW hl h => ?_) n σ 0 0 _ _ _ hW (lv_sub hl [2, 3, 1, 0] rfl) h
        exact ih σ23 w24 _ _ _ hW (hl) h
  refine hL37 a2 _ (fun σ25 H locs ls hW hl h => ?_) n σ5 1 _ _ _ hW (lv_sub hl [1, 2, 0] rfl) h
  exact ret_vs (wf := wM G A) hret h hW dX12_values_170
def rmX12_levels : Room := { frames := 3, cells := 0, slots := 0, locals := 67 }
def LX12_levels_2 (K : SC → Option SC) : Nat → SC → Int32 → Option SC
  | 0, _, _ => none
  | k + 1, σ, y2 => if 30 ≤ y2 then K σ else ck 30 y2 (lt (sa σ 6 (upd (ga σ 6) y2.toNatClampNeg (-1))) (fun σ1 => lt (y2 + 1) (fun v2 => LX12_levels_2 K k σ1 v2)))
def LX12_levels_23 (K : SC → Option SC) : Nat → SC → Int32 → Option SC
  | 0, _, _ => none
  | k + 1, σ, y2 => if 24 ≤ y2 then K σ else ck 24 y2 (lt (sa σ 7 (upd (ga σ 7) y2.toNatClampNeg (-1))) (fun σ4 => lt (y2 + 1) (fun v5 => LX12_levels_23 K k σ4 v5)))
def LX12_levels_55 (y2 : Int32) (y3 : Int32) (K : SC → Option SC) : Nat → SC → Int32 → Option SC
  | 0, _, _ => none
  | k + 1, σ, y4 => if 30 ≤ y4 then K σ else ld (ga σ 6) 30 y4 (fun v7 => jn (fun (_ : Unit) => ld (ga σ 6) 30 y4 (fun v9 => ck 30 y4 (lt (sa σ 6 (upd (ga σ 6) y4.toNatClampNeg v9)) (fun σ10 => lt (y4 + 1) (fun v11 => LX12_levels_55 y2 y3 K k σ10 v11))))) (fun J8 => if v7 = (-1) then if ((y2 >>> (y4 &&& 31)) &&& 1) = 1 then ck 30 y4 (lt (sa σ 6 (upd (ga σ 6) y4.toNatClampNeg y3)) (fun σ12 => lt (y4 + 1) (fun v13 => LX12_levels_55 y2 y3 K k σ12 v13))) else J8 () else J8 ()))
def LX12_levels_110 (y2 : Int32) (y3 : Int32) (K : SC → Option SC) : Nat → SC → Int32 → Option SC
  | 0, _, _ => none
  | k + 1, σ, y4 => ld (ga σ 0) 173 172 (fun v15 => if v15 ≤ y4 then K σ else ld (ga σ 7) 24 y4 (fun v16 => jn (fun (_ : Unit) => ld (ga σ 7) 24 y4 (fun v18 => ck 24 y4 (lt (sa σ 7 (upd (ga σ 7) y4.toNatClampNeg v18)) (fun σ19 => lt (y4 + 1) (fun v20 => LX12_levels_110 y2 y3 K k σ19 v20))))) (fun J17 => if v16 = (-1) then bd (f_X12_mayBe σ y2 y4) (fun v22 => if v22 = 0 then J17 () else ck 24 y4 (lt (sa σ 7 (upd (ga σ 7) y4.toNatClampNeg y3)) (fun σ23 => lt (y4 + 1) (fun v24 => LX12_levels_110 y2 y3 K k σ23 v24)))) else J17 ())))
def LX12_levels_46 (n : Nat) (K : SC → Option SC) : Nat → SC → Int32 → Int32 → Option SC
  | 0, _, _, _ => none
  | k + 1, σ, y2, y3 => if 30 < y3 then K σ else LX12_levels_55 y2 y3 (fun σ14 => LX12_levels_110 y2 y3 (fun σ25 => bd (f_X12_nextLevel n σ25 y2 0) (fun v27 => lt (y3 + 1) (fun v28 => LX12_levels_46 n K k σ25 v27 v28))) n σ14 0) n σ 0
def f_X12_levels (n : Nat) (σ : SC) (a1 : Int32) : Option SC := LX12_levels_2 (fun σ3 => LX12_levels_23 (fun σ6 => LX12_levels_46 n (fun σ29 => some σ29) n σ6 a1 0) n σ3 0) n σ 0
theorem mi_X12_levels : MI yX12_levels cX12_levels 5 none 1 := ⟨im_X12_levels, se_X12_levels, in_X12, co_X12_levels, by decide, by decide, by decide +kernel⟩
set_option maxRecDepth 100000 in
set_option maxHeartbeats 4000000 in
theorem ct_X12_levels (l : Launch) (n : Nat) (G : EN) (A : Nat → Nat) (σ : SC) (sz : Nat) (a1 : Int32) {σ0 : SC} (h : f_X12_levels n σ a1 = some σ0) : CT l yX12_levels cX12_levels 5 none rmX12_levels G sz [.ref (A 0), .int a1] (wM G A σ) (QV G (va_A (wM G A σ) sz) (wM G A σ0)) := by
  unfold f_X12_levels at h
  refine CV.intro (lv := [(0, .ref (A 0)), (1, .int a1)]) (by decide) (Nat.le_of_ble_eq_true rfl) rfl ?_
  intro p e s m args below meth c Q B S hret H locs ls hW hl
  have hx := S.1
  have hb := S.2.1
  refine lv_iconst (v := 0) hx hb dX12_levels_0 (by decide) ?_
  refine lv_istore_n (lv' := [(2, .int 0), (0, .ref (A 0)), (1, .int a1)]) hx hb dX12_levels_1 rfl hl (by decide) rfl (fun ls hl => ?_)
  have hL2 : ∀ (y1 : Int32) (K : SC → Option SC), (∀ (σ : SC) (H : Heap) (locs : List Loc) (ls : Array Slot), WS G B s (wM G A σ) H locs → lv_has ls 5 [(0, .ref (A 0)), (1, .int y1)] → K σ = some σ0 → W p l e rmX12_levels s m args below meth c H locs 0 0 Q (F0 m 21 ls [])) → ∀ (k : Nat) (σ : SC) (y2 : Int32)  (H : Heap) (locs : List Loc) (ls : Array Slot), WS G B s (wM G A σ) H locs → lv_has ls 5 [(0, .ref (A 0)), (1, .int y1), (2, .int y2)] → LX12_levels_2 K k σ y2 = some σ0 → W p l e rmX12_levels s m args below meth c H locs 0 0 Q (F0 m 2 ls []) := by
    intro y1 K hK k
    induction k with
    | zero => intro σ y2 H locs ls hW hl h; rw [LX12_levels_2] at h; cases h
    | succ k ih =>
      intro σ y2 H locs ls hW hl h
      rw [LX12_levels_2] at h
      refine lv_iload_n hx hb dX12_levels_2 rfl (lv_at hl 2 rfl) ?_
      refine lv_bipush (v := 30) hx hb dX12_levels_3 (by decide) ?_
      refine bc_ge (tgt := 21) hx hb h dX12_levels_5 (by decide) (fun _ h => ?_) (fun _ h => ?_)
      · exact hK σ _ _ _ hW (lv_sub hl [0, 1] rfl) h
      · refine lv_aload_n hx hb dX12_levels_8 rfl (lv_at hl 0 rfl) ?_
        refine gM_levelOf S hW lk_X12_39 dX12_levels_9 ?_
        refine lv_iload_n hx hb dX12_levels_12 rfl (lv_at hl 2 rfl) ?_
        refine lv_iconst (v := (-1)) hx hb dX12_levels_13 (by decide) ?_
        refine sM_9 S hW h dX12_levels_14 (fun σ1 H locs eσ1 _ h hW => ?_)
        have h := lt_at eσ1 h
        refine w_iinc (lv' := [(0, .ref (A 0)), (1, .int y1)]) hx hb dX12_levels_15 hl (k := 2) rfl (by decide) (by decide) rfl h (fun v2 ls hl h => ?_)
        refine lv_goto (tgt := 2) hx hb dX12_levels_18 (by decide) ?_
        exact ih σ1 v2 _ _ _ hW (lv_sub hl [1, 2, 0] rfl) h
  refine hL2 a1 _ (fun σ3 H locs ls hW hl h => ?_) n σ 0 _ _ _ hW (lv_sub hl [1, 2, 0] rfl) h
  refine lv_iconst (v := 0) hx hb dX12_levels_21 (by decide) ?_
  refine lv_istore_n (lv' := [(2, .int 0), (0, .ref (A 0)), (1, .int a1)]) hx hb dX12_levels_22 rfl hl (by decide) rfl (fun ls hl => ?_)
  have hL23 : ∀ (y1 : Int32) (K : SC → Option SC), (∀ (σ : SC) (H : Heap) (locs : List Loc) (ls : Array Slot), WS G B s (wM G A σ) H locs → lv_has ls 5 [(0, .ref (A 0)), (1, .int y1)] → K σ = some σ0 → W p l e rmX12_levels s m args below meth c H locs 0 0 Q (F0 m 42 ls [])) → ∀ (k : Nat) (σ : SC) (y2 : Int32)  (H : Heap) (locs : List Loc) (ls : Array Slot), WS G B s (wM G A σ) H locs → lv_has ls 5 [(0, .ref (A 0)), (1, .int y1), (2, .int y2)] → LX12_levels_23 K k σ y2 = some σ0 → W p l e rmX12_levels s m args below meth c H locs 0 0 Q (F0 m 23 ls []) := by
    intro y1 K hK k
    induction k with
    | zero => intro σ y2 H locs ls hW hl h; rw [LX12_levels_23] at h; cases h
    | succ k ih =>
      intro σ y2 H locs ls hW hl h
      rw [LX12_levels_23] at h
      refine lv_iload_n hx hb dX12_levels_23 rfl (lv_at hl 2 rfl) ?_
      refine lv_bipush (v := 24) hx hb dX12_levels_24 (by decide) ?_
      refine bc_ge (tgt := 42) hx hb h dX12_levels_26 (by decide) (fun _ h => ?_) (fun _ h => ?_)
      · exact hK σ _ _ _ hW (lv_sub hl [0, 1] rfl) h
      · refine lv_aload_n hx hb dX12_levels_29 rfl (lv_at hl 0 rfl) ?_
        refine gM_levelOfAction S hW lk_X12_42 dX12_levels_30 ?_
        refine lv_iload_n hx hb dX12_levels_33 rfl (lv_at hl 2 rfl) ?_
        refine lv_iconst (v := (-1)) hx hb dX12_levels_34 (by decide) ?_
        refine sM_10 S hW h dX12_levels_35 (fun σ4 H locs eσ4 _ h hW => ?_)
        have h := lt_at eσ4 h
        refine w_iinc (lv' := [(0, .ref (A 0)), (1, .int y1)]) hx hb dX12_levels_36 hl (k := 2) rfl (by decide) (by decide) rfl h (fun v5 ls hl h => ?_)
        refine lv_goto (tgt := 23) hx hb dX12_levels_39 (by decide) ?_
        exact ih σ4 v5 _ _ _ hW (lv_sub hl [1, 2, 0] rfl) h
  refine hL23 a1 _ (fun σ6 H locs ls hW hl h => ?_) n σ3 0 _ _ _ hW (lv_sub hl [1, 2, 0] rfl) h
  refine lv_iload_n hx hb dX12_levels_42 rfl (lv_at hl 1 rfl) ?_
  refine lv_istore_n (lv' := [(2, .int a1), (0, .ref (A 0)), (1, .int a1)]) hx hb dX12_levels_43 rfl hl (by decide) rfl (fun ls hl => ?_)
  refine lv_iconst (v := 0) hx hb dX12_levels_44 (by decide) ?_
  refine lv_istore_n (lv' := [(3, .int 0), (2, .int a1), (0, .ref (A 0)), (1, .int a1)]) hx hb dX12_levels_45 rfl hl (by decide) rfl (fun ls hl => ?_)
  have hL46 : ∀  (K : SC → Option SC), (∀ (σ : SC) (H : Heap) (locs : List Loc) (ls : Array Slot), WS G B s (wM G A σ) H locs → lv_has ls 5 [] → K σ = some σ0 → W p l e rmX12_levels s m args below meth c H locs 0 0 Q (F0 m 181 ls [])) → ∀ (k : Nat) (σ : SC) (y2 : Int32) (y3 : Int32)  (H : Heap) (locs : List Loc) (ls : Array Slot), WS G B s (wM G A σ) H locs → lv_has ls 5 [(0, .ref (A 0)), (2, .int y2), (3, .int y3)] → LX12_levels_46 n K k σ y2 y3 = some σ0 → W p l e rmX12_levels s m args below meth c H locs 0 0 Q (F0 m 46 ls []) := by
    intro  K hK k
    induction k with
    | zero => intro σ y2 y3 H locs ls hW hl h; rw [LX12_levels_46] at h; cases h
    | succ k ih =>
      intro σ y2 y3 H locs ls hW hl h
      rw [LX12_levels_46] at h
      refine lv_iload_n hx hb dX12_levels_46 rfl (lv_at hl 2 rfl) ?_
      refine lv_bipush (v := 30) hx hb dX12_levels_47 (by decide) ?_
      refine bc_gt (tgt := 181) hx hb h dX12_levels_49 (by decide) (fun _ h => ?_) (fun _ h => ?_)
      · exact hK σ _ _ _ hW (lv_sub hl [] rfl) h
      · refine lv_iconst (v := 0) hx hb dX12_levels_52 (by decide) ?_
        refine lv_istore (lv' := [(4, .int 0), (0, .ref (A 0)), (2, .int y2), (3, .int y3)]) hx hb dX12_levels_53 hl (by decide) rfl (fun ls hl => ?_)
        have hL55 : ∀ (y2 : Int32) (y3 : Int32) (K : SC → Option SC), (∀ (σ : SC) (H : Heap) (locs : List Loc) (ls : Array Slot), WS G B s (wM G A σ) H locs → lv_has ls 5 [(0, .ref (A 0)), (2, .int y2), (3, .int y3)] → K σ = some σ0 → W p l e rmX12_levels s m args below meth c H locs 0 0 Q (F0 m 107 ls [])) → ∀ (k : Nat) (σ : SC) (y4 : Int32)  (H : Heap) (locs : List Loc) (ls : Array Slot), WS G B s (wM G A σ) H locs → lv_has ls 5 [(0, .ref (A 0)), (2, .int y2), (3, .int y3), (4, .int y4)] → LX12_levels_55 y2 y3 K k σ y4 = some σ0 → W p l e rmX12_levels s m args below meth c H locs 0 0 Q (F0 m 55 ls []) := by
          intro y2 y3 K hK k
          induction k with
          | zero => intro σ y4 H locs ls hW hl h; rw [LX12_levels_55] at h; cases h
          | succ k ih =>
            intro σ y4 H locs ls hW hl h
            rw [LX12_levels_55] at h
            refine lv_iload hx hb dX12_levels_55 (lv_at hl 3 rfl) ?_
            refine lv_bipush (v := 30) hx hb dX12_levels_57 (by decide) ?_
            refine bc_ge (tgt := 107) hx hb h dX12_levels_59 (by decide) (fun _ h => ?_) (fun _ h => ?_)
            · exact hK σ _ _ _ hW (lv_sub hl [0, 1, 2] rfl) h
            · refine lv_aload_n hx hb dX12_levels_62 rfl (lv_at hl 0 rfl) ?_
              refine gM_levelOf S hW lk_X12_39 dX12_levels_63 ?_
              refine lv_iload hx hb dX12_levels_66 (lv_at hl 3 rfl) ?_
              refine lv_aload_n hx hb dX12_levels_68 rfl (lv_at hl 0 rfl) ?_
              refine gM_levelOf S hW lk_X12_39 dX12_levels_69 ?_
              refine lv_iload hx hb dX12_levels_72 (lv_at hl 3 rfl) ?_
              refine aM_9 S hW h dX12_levels_74 (fun v7 _ h => ?_)
              refine lv_iconst (v := (-1)) hx hb dX12_levels_75 (by decide) ?_
              obtain ⟨J8, eJ8, h⟩ := jn_o h
              have hJ8 : ∀   (H : Heap) (locs : List Loc) (ls : Array Slot), WS G B s (wM G A σ) H locs → lv_has ls 5 [(0, .ref (A 0)), (2, .int y2), (3, .int y3), (4, .int y4)] → J8 () = some σ0 → W p l e rmX12_levels s m args below meth c H locs 0 0 Q (F0 m 93 ls [.int y4, .ref (A 9)]) := by
                subst eJ8
                intro  H locs ls hW hl h
                refine lv_aload_n hx hb dX12_levels_93 rfl (lv_at hl 0 rfl) ?_
                refine gM_levelOf S hW lk_X12_39 dX12_levels_94 ?_
                refine lv_iload hx hb dX12_levels_97 (lv_at hl 3 rfl) ?_
                refine aM_9 S hW h dX12_levels_99 (fun v9 _ h => ?_)
                refine sM_9 S hW h dX12_levels_100 (fun σ10 H locs eσ10 _ h hW => ?_)
                have h := lt_at eσ10 h
                refine w_iinc (lv' := [(0, .ref (A 0)), (2, .int y2), (3, .int y3)]) hx hb dX12_levels_101 hl (k := 3) rfl (by decide) (by decide) rfl h (fun v11 ls hl h => ?_)
                refine lv_goto (tgt := 55) hx hb dX12_levels_104 (by decide) ?_
                exact ih σ10 v11 _ _ _ hW (lv_sub hl [1, 2, 3, 0] rfl) h
              clear eJ8
              refine bc_ne (tgt := 93) hx hb h dX12_levels_76 (by decide) (fun _ h => ?_) (fun _ h => ?_)
              · refine lv_iload_n hx hb dX12_levels_79 rfl (lv_at hl 1 rfl) ?_
                refine lv_iload hx hb dX12_levels_80 (lv_at hl 3 rfl) ?_
                refine lv_ishr hx hb dX12_levels_82 ?_
                refine lv_iconst (v := 1) hx hb dX12_levels_83 (by decide) ?_
                refine lv_iand hx hb dX12_levels_84 ?_
                refine lv_iconst (v := 1) hx hb dX12_levels_85 (by decide) ?_
                refine bc_ne (tgt := 93) hx hb h dX12_levels_86 (by decide) (fun _ h => ?_) (fun _ h => ?_)
                · refine lv_iload_n hx hb dX12_levels_89 rfl (lv_at hl 2 rfl) ?_
                  refine lv_goto (tgt := 100) hx hb dX12_levels_90 (by decide) ?_
                  refine sM_9 S hW h dX12_levels_100 (fun σ12 H locs eσ12 _ h hW => ?_)
                  have h := lt_at eσ12 h
                  refine w_iinc (lv' := [(0, .ref (A 0)), (2, .int y2), (3, .int y3)]) hx hb dX12_levels_101 hl (k := 3) rfl (by decide) (by decide) rfl h (fun v13 ls hl h => ?_)
                  refine lv_goto (tgt := 55) hx hb dX12_levels_104 (by decide) ?_
                  exact ih σ12 v13 _ _ _ hW (lv_sub hl [1, 2, 3, 0] rfl) h
                · exact hJ8  _ _ _ hW (hl) h
              · exact hJ8  _ _ _ hW (hl) h
        refine hL55 y2 y3 _ (fun σ14 H locs ls hW hl h => ?_) n σ 0 _ _ _ hW (lv_sub hl [1, 2, 3, 0] rfl) h
        refine lv_iconst (v := 0) hx hb dX12_levels_107 (by decide) ?_
        refine lv_istore (lv' := [(4, .int 0), (0, .ref (A 0)), (2, .int y2), (3, .int y3)]) hx hb dX12_levels_108 hl (by decide) rfl (fun ls hl => ?_)
        have hL110 : ∀ (y2 : Int32) (y3 : Int32) (K : SC → Option SC), (∀ (σ : SC) (H : Heap) (locs : List Loc) (ls : Array Slot), WS G B s (wM G A σ) H locs → lv_has ls 5 [(0, .ref (A 0)), (2, .int y2), (3, .int y3)] → K σ = some σ0 → W p l e rmX12_levels s m args below meth c H locs 0 0 Q (F0 m 168 ls [])) → ∀ (k : Nat) (σ : SC) (y4 : Int32)  (H : Heap) (locs : List Loc) (ls : Array Slot), WS G B s (wM G A σ) H locs → lv_has ls 5 [(0, .ref (A 0)), (2, .int y2), (3, .int y3), (4, .int y4)] → LX12_levels_110 y2 y3 K k σ y4 = some σ0 → W p l e rmX12_levels s m args below meth c H locs 0 0 Q (F0 m 110 ls []) := by
          intro y2 y3 K hK k
          induction k with
          | zero => intro σ y4 H locs ls hW hl h; rw [LX12_levels_110] at h; cases h
          | succ k ih =>
            intro σ y4 H locs ls hW hl h
            rw [LX12_levels_110] at h
            refine lv_iload hx hb dX12_levels_110 (lv_at hl 3 rfl) ?_
            refine lv_aload_n hx hb dX12_levels_112 rfl (lv_at hl 0 rfl) ?_
            refine gM_s S hW lk_X12_7 dX12_levels_113 ?_
            refine lv_sipush (v := 172) hx hb dX12_levels_116 (by decide) ?_
            refine aM_1 S hW h dX12_levels_119 (fun v15 _ h => ?_)
            refine bc_ge (tgt := 168) hx hb h dX12_levels_120 (by decide) (fun _ h => ?_) (fun _ h => ?_)
            · exact hK σ _ _ _ hW (lv_sub hl [0, 1, 2] rfl) h
            · refine lv_aload_n hx hb dX12_levels_123 rfl (lv_at hl 0 rfl) ?_
              refine gM_levelOfAction S hW lk_X12_42 dX12_levels_124 ?_
              refine lv_iload hx hb dX12_levels_127 (lv_at hl 3 rfl) ?_
              refine lv_aload_n hx hb dX12_levels_129 rfl (lv_at hl 0 rfl) ?_
              refine gM_levelOfAction S hW lk_X12_42 dX12_levels_130 ?_
              refine lv_iload hx hb dX12_levels_133 (lv_at hl 3 rfl) ?_
              refine aM_10 S hW h dX12_levels_135 (fun v16 _ h => ?_)
              refine lv_iconst (v := (-1)) hx hb dX12_levels_136 (by decide) ?_
              obtain ⟨J17, eJ17, h⟩ := jn_o h
              have hJ17 : ∀   (H : Heap) (locs : List Loc) (ls : Array Slot), WS G B s (wM G A σ) H locs → lv_has ls 5 [(0, .ref (A 0)), (2, .int y2), (3, .int y3), (4, .int y4)] → J17 () = some σ0 → W p l e rmX12_levels s m args below meth c H locs 0 0 Q (F0 m 154 ls [.int y4, .ref (A 10)]) := by
                subst eJ17
                intro  H locs ls hW hl h
                refine lv_aload_n hx hb dX12_levels_154 rfl (lv_at hl 0 rfl) ?_
                refine gM_levelOfAction S hW lk_X12_42 dX12_levels_155 ?_
                refine lv_iload hx hb dX12_levels_158 (lv_at hl 3 rfl) ?_
                refine aM_10 S hW h dX12_levels_160 (fun v18 _ h => ?_)
                refine sM_10 S hW h dX12_levels_161 (fun σ19 H locs eσ19 _ h hW => ?_)
                have h := lt_at eσ19 h
                refine w_iinc (lv' := [(0, .ref (A 0)), (2, .int y2), (3, .int y3)]) hx hb dX12_levels_162 hl (k := 3) rfl (by decide) (by decide) rfl h (fun v20 ls hl h => ?_)
                refine lv_goto (tgt := 110) hx hb dX12_levels_165 (by decide) ?_
                exact ih σ19 v20 _ _ _ hW (lv_sub hl [1, 2, 3, 0] rfl) h
              clear eJ17
              refine bc_ne (tgt := 154) hx hb h dX12_levels_137 (by decide) (fun _ h => ?_) (fun _ h => ?_)
              · refine lv_aload_n hx hb dX12_levels_140 rfl (lv_at hl 0 rfl) ?_
                refine lv_iload_n hx hb dX12_levels_141 rfl (lv_at hl 1 rfl) ?_
                refine lv_iload hx hb dX12_levels_142 (lv_at hl 3 rfl) ?_
                obtain ⟨v22, h21, h⟩ := bd_o h
                refine back_i (rest := [.int y4, .ref (A 10)]) hW (run_V S hW (ct_X12_mayBe l G A σ _ y2 y4 h21) mi_X12_mayBe lk_X12_165 (eM_0 G A σ) rfl rfl rfl hl (Nat.le_of_ble_eq_true rfl) dX12_levels_144 ⟨Nat.le_of_ble_eq_true rfl, Nat.le_of_ble_eq_true rfl⟩ rfl rfl) (fun H locs hW => ?_)
                refine bz_eq (tgt := 154) hx hb h dX12_levels_147 (by decide) (fun _ h => ?_) (fun _ h => ?_)
                · exact hJ17  _ _ _ hW (hl) h
                · refine lv_iload_n hx hb dX12_levels_150 rfl (lv_at hl 2 rfl) ?_
                  refine lv_goto (tgt := 161) hx hb dX12_levels_151 (by decide) ?_
                  refine sM_10 S hW h dX12_levels_161 (fun σ23 H locs eσ23 _ h hW => ?_)
                  have h := lt_at eσ23 h
                  refine w_iinc (lv' := [(0, .ref (A 0)), (2, .int y2), (3, .int y3)]) hx hb dX12_levels_162 hl (k := 3) rfl (by decide) (by decide) rfl h (fun v24 ls hl h => ?_)
                  refine lv_goto (tgt := 110) hx hb dX12_levels_165 (by decide) ?_
                  exact ih σ23 v24 _ _ _ hW (lv_sub hl [1, 2, 3, 0] rfl) h
              · exact hJ17  _ _ _ hW (hl) h
        refine hL110 y2 y3 _ (fun σ25 H locs ls hW hl h => ?_) n σ14 0 _ _ _ hW (lv_sub hl [1, 2, 3, 0] rfl) h
        refine lv_aload_n hx hb dX12_levels_168 rfl (lv_at hl 0 rfl) ?_
        refine lv_iload_n hx hb dX12_levels_169 rfl (lv_at hl 1 rfl) ?_
        refine lv_iconst (v := 0) hx hb dX12_levels_170 (by decide) ?_
        obtain ⟨v27, h26, h⟩ := bd_o h
        refine back_i (rest := []) hW (run_V S hW (ct_X12_nextLevel l n G A σ25 _ y2 0 h26) mi_X12_nextLevel lk_X12_171 (eM_0 G A σ25) rfl rfl rfl hl (Nat.le_of_ble_eq_true rfl) dX12_levels_171 ⟨Nat.le_of_ble_eq_true rfl, Nat.le_of_ble_eq_true rfl⟩ rfl rfl) (fun H locs hW => ?_)
        refine lv_istore_n (lv' := [(2, .int v27), (0, .ref (A 0)), (3, .int y3)]) hx hb dX12_levels_174 rfl hl (by decide) rfl (fun ls hl => ?_)
        refine w_iinc (lv' := [(2, .int v27), (0, .ref (A 0))]) hx hb dX12_levels_175 hl (k := 2) rfl (by decide) (by decide) rfl h (fun v28 ls hl h => ?_)
        refine lv_goto (tgt := 46) hx hb dX12_levels_178 (by decide) ?_
        exact ih σ25 v27 v28 _ _ _ hW (lv_sub hl [2, 1, 0] rfl) h
  refine hL46  _ (fun σ29 H locs ls hW hl h => ?_) n σ6 a1 0 _ _ _ hW (lv_sub hl [2, 1, 0] rfl) h
  exact ret_vs (wf := wM G A) hret h hW dX12_levels_181
def rmX12_countOf : Room := { frames := 0, cells := 0, slots := 0, locals := 0 }
def LX12_countOf_4 (y1 : Int32) (K : Int32 → Option Int32) : Nat → Int32 → Int32 → Option Int32
  | 0, _, _ => none
  | k + 1, y2, y3 => if 30 ≤ y3 then K y2 else lt (y2 + ((y1 >>> (y3 &&& 31)) &&& 1)) (fun v1 => lt (y3 + 1) (fun v2 => LX12_countOf_4 y1 K k v1 v2))
def f_X12_countOf (n : Nat) (a1 : Int32) : Option Int32 := LX12_countOf_4 a1 (fun w3 => some w3) n 0 0
theorem mi_X12_countOf : MI yX12_countOf cX12_countOf 4 (some .int) 1 := ⟨im_X12_countOf, se_X12_countOf, in_X12, co_X12_countOf, by decide, by decide, by decide +kernel⟩
set_option maxRecDepth 100000 in
set_option maxHeartbeats 4000000 in
theorem ct_X12_countOf (l : Launch) (n : Nat) (G : EN) (A : Nat → Nat) (σ : SC) (sz : Nat) (a1 : Int32) {r0 : Int32} (h : f_X12_countOf n a1 = some r0) : CT l yX12_countOf cX12_countOf 4 (some .int) rmX12_countOf G sz [.ref (A 0), .int a1] (wM G A σ) (QI G (va_A (wM G A σ) sz) r0 (wM G A σ)) := by
  unfold f_X12_countOf at h
  refine CI.intro (lv := [(0, .ref (A 0)), (1, .int a1)]) (by decide) (Nat.le_of_ble_eq_true rfl) rfl ?_
  intro p e s m args below meth c Q B S hret H locs ls hW hl
  have hx := S.1
  have hb := S.2.1
  refine lv_iconst (v := 0) hx hb dX12_countOf_0 (by decide) ?_
  refine lv_istore_n (lv' := [(2, .int 0), (0, .ref (A 0)), (1, .int a1)]) hx hb dX12_countOf_1 rfl hl (by decide) rfl (fun ls hl => ?_)
  refine lv_iconst (v := 0) hx hb dX12_countOf_2 (by decide) ?_
  refine lv_istore_n (lv' := [(3, .int 0), (2, .int 0), (0, .ref (A 0)), (1, .int a1)]) hx hb dX12_countOf_3 rfl hl (by decide) rfl (fun ls hl => ?_)
  have hL4 : ∀ (y1 : Int32) (K : Int32 → Option Int32), (∀ (z2 : Int32) (H : Heap) (locs : List Loc) (ls : Array Slot), WS G B s (wM G A σ) H locs → lv_has ls 4 [(2, .int z2)] → K z2 = some r0 → W p l e rmX12_countOf s m args below meth c H locs 0 0 Q (F0 m 24 ls [])) → ∀ (k : Nat)  (y2 : Int32) (y3 : Int32)  (H : Heap) (locs : List Loc) (ls : Array Slot), WS G B s (wM G A σ) H locs → lv_has ls 4 [(1, .int y1), (2, .int y2), (3, .int y3)] → LX12_countOf_4 y1 K k y2 y3 = some r0 → W p l e rmX12_countOf s m args below meth c H locs 0 0 Q (F0 m 4 ls []) := by
    intro y1 K hK k
    induction k with
    | zero => intro y2 y3 H locs ls hW hl h; rw [LX12_countOf_4] at h; cases h
    | succ k ih =>
      intro y2 y3 H locs ls hW hl h
      rw [LX12_countOf_4] at h
      refine lv_iload_n hx hb dX12_countOf_4 rfl (lv_at hl 2 rfl) ?_
      refine lv_bipush (v := 30) hx hb dX12_countOf_5 (by decide) ?_
      refine bc_ge (tgt := 24) hx hb h dX12_countOf_7 (by decide) (fun _ h => ?_) (fun _ h => ?_)
      · exact hK y2 _ _ _ hW (lv_sub hl [1] rfl) h
      · refine lv_iload_n hx hb dX12_countOf_10 rfl (lv_at hl 1 rfl) ?_
        refine lv_iload_n hx hb dX12_countOf_11 rfl (lv_at hl 0 rfl) ?_
        refine lv_iload_n hx hb dX12_countOf_12 rfl (lv_at hl 2 rfl) ?_
        refine lv_ishr hx hb dX12_countOf_13 ?_
        refine lv_iconst (v := 1) hx hb dX12_countOf_14 (by decide) ?_
        refine lv_iand hx hb dX12_countOf_15 ?_
        refine lv_iadd hx hb dX12_countOf_16 ?_
        refine nm_i h (fun v1 h => ?_)
        refine lv_istore_n (lv' := [(2, .int v1), (1, .int y1), (3, .int y3)]) hx hb dX12_countOf_17 rfl hl (by decide) rfl (fun ls hl => ?_)
        refine w_iinc (lv' := [(2, .int v1), (1, .int y1)]) hx hb dX12_countOf_18 hl (k := 2) rfl (by decide) (by decide) rfl h (fun v2 ls hl h => ?_)
        refine lv_goto (tgt := 4) hx hb dX12_countOf_21 (by decide) ?_
        exact ih v1 v2 _ _ _ hW (lv_sub hl [2, 1, 0] rfl) h
  refine hL4 a1 _ (fun w3 H locs ls hW hl h => ?_) n 0 0 _ _ _ hW (lv_sub hl [3, 1, 0] rfl) h
  refine lv_iload_n hx hb dX12_countOf_24 rfl (lv_at hl 0 rfl) ?_
  exact hret H locs _ ls _ (Option.some.inj h) rfl hW dX12_countOf_25
def rmX12_by : Room := { frames := 3, cells := 0, slots := 0, locals := 67 }
def LX12_by_4 (n : Nat) (σ : SC) (y1 : Int32) (K : Int32 → Option Int32) : Nat → Int32 → Int32 → Option Int32
  | 0, _, _ => none
  | k + 1, y2, y3 => ld (ga σ 0) 173 172 (fun v1 => if v1 ≤ y3 then K y2 else ld (ga σ 0) 173 (24 + y3) (fun v2 => jn (fun (u4 : Int32) => jn (fun (u6 : Int32) => jn (fun (u8 : Int32) => if u8 = 0 then lt (y3 + 1) (fun v9 => LX12_by_4 n σ y1 K k y2 v9) else lt (y3 + 1) (fun v10 => LX12_by_4 n σ y1 K k y3 v10)) (fun J7 => if u6 = (-1) then J7 0 else ld (ga σ 6) 30 y1 (fun v11 => if v11 ≤ u6 then J7 0 else if y2 = (-1) then J7 1 else bd (f_X12_valueBy n σ y3 1) (fun v13 => bd (f_X12_valueBy n σ y2 1) (fun v15 => if v15 ≤ v13 then J7 0 else J7 1))))) (fun J5 => if u4 = 0 then J5 (-1) else ld (ga σ 7) 24 y3 (fun v16 => J5 v16))) (fun J3 => if ((v2 >>> (y1 &&& 31)) &&& 1) = 1 then J3 1 else J3 0)))
def f_X12_by (n : Nat) (σ : SC) (a1 : Int32) : Option Int32 := LX12_by_4 n σ a1 (fun w17 => some w17) n (-1) 0
theorem mi_X12_by : MI yX12_by cX12_by 7 (some .int) 1 := ⟨im_X12_by, se_X12_by, in_X12, co_X12_by, by decide, by decide, by decide +kernel⟩
set_option maxRecDepth 100000 in
set_option maxHeartbeats 4000000 in
theorem ct_X12_by (l : Launch) (n : Nat) (G : EN) (A : Nat → Nat) (σ : SC) (sz : Nat) (a1 : Int32) {r0 : Int32} (h : f_X12_by n σ a1 = some r0) : CT l yX12_by cX12_by 7 (some .int) rmX12_by G sz [.ref (A 0), .int a1] (wM G A σ) (QI G (va_A (wM G A σ) sz) r0 (wM G A σ)) := by
  unfold f_X12_by at h
  refine CI.intro (lv := [(0, .ref (A 0)), (1, .int a1)]) (by decide) (Nat.le_of_ble_eq_true rfl) rfl ?_
  intro p e s m args below meth c Q B S hret H locs ls hW hl
  have hx := S.1
  have hb := S.2.1
  refine lv_iconst (v := (-1)) hx hb dX12_by_0 (by decide) ?_
  refine lv_istore_n (lv' := [(2, .int (-1)), (0, .ref (A 0)), (1, .int a1)]) hx hb dX12_by_1 rfl hl (by decide) rfl (fun ls hl => ?_)
  refine lv_iconst (v := 0) hx hb dX12_by_2 (by decide) ?_
  refine lv_istore_n (lv' := [(3, .int 0), (2, .int (-1)), (0, .ref (A 0)), (1, .int a1)]) hx hb dX12_by_3 rfl hl (by decide) rfl (fun ls hl => ?_)
  have hL4 : ∀ (y1 : Int32) (K : Int32 → Option Int32), (∀ (z2 : Int32) (H : Heap) (locs : List Loc) (ls : Array Slot), WS G B s (wM G A σ) H locs → lv_has ls 7 [(2, .int z2)] → K z2 = some r0 → W p l e rmX12_by s m args below meth c H locs 0 0 Q (F0 m 118 ls [])) → ∀ (k : Nat)  (y2 : Int32) (y3 : Int32)  (H : Heap) (locs : List Loc) (ls : Array Slot), WS G B s (wM G A σ) H locs → lv_has ls 7 [(0, .ref (A 0)), (1, .int y1), (2, .int y2), (3, .int y3)] → LX12_by_4 n σ y1 K k y2 y3 = some r0 → W p l e rmX12_by s m args below meth c H locs 0 0 Q (F0 m 4 ls []) := by
    intro y1 K hK k
    induction k with
    | zero => intro y2 y3 H locs ls hW hl h; rw [LX12_by_4] at h; cases h
    | succ k ih =>
      intro y2 y3 H locs ls hW hl h
      rw [LX12_by_4] at h
      refine lv_iload_n hx hb dX12_by_4 rfl (lv_at hl 3 rfl) ?_
      refine lv_aload_n hx hb dX12_by_5 rfl (lv_at hl 0 rfl) ?_
      refine gM_s S hW lk_X12_7 dX12_by_6 ?_
      refine lv_sipush (v := 172) hx hb dX12_by_9 (by decide) ?_
      refine aM_1 S hW h dX12_by_12 (fun v1 _ h => ?_)
      refine bc_ge (tgt := 118) hx hb h dX12_by_13 (by decide) (fun _ h => ?_) (fun _ h => ?_)
      · exact hK y2 _ _ _ hW (lv_sub hl [2] rfl) h
      · refine lv_aload_n hx hb dX12_by_16 rfl (lv_at hl 0 rfl) ?_
        refine gM_s S hW lk_X12_7 dX12_by_17 ?_
        refine lv_bipush (v := 24) hx hb dX12_by_20 (by decide) ?_
        refine lv_iload_n hx hb dX12_by_22 rfl (lv_at hl 3 rfl) ?_
        refine lv_iadd hx hb dX12_by_23 ?_
        refine aM_1 S hW h dX12_by_24 (fun v2 _ h => ?_)
        refine lv_iload_n hx hb dX12_by_25 rfl (lv_at hl 1 rfl) ?_
        refine lv_ishr hx hb dX12_by_26 ?_
        refine lv_iconst (v := 1) hx hb dX12_by_27 (by decide) ?_
        refine lv_iand hx hb dX12_by_28 ?_
        refine lv_iconst (v := 1) hx hb dX12_by_29 (by decide) ?_
        obtain ⟨J3, eJ3, h⟩ := jn_o h
        have hJ3 : ∀ (u4 : Int32)  (H : Heap) (locs : List Loc) (ls : Array Slot), WS G B s (wM G A σ) H locs → lv_has ls 7 [(0, .ref (A 0)), (1, .int y1), (2, .int y2), (3, .int y3)] → J3 u4 = some r0 → W p l e rmX12_by s m args below meth c H locs 0 0 Q (F0 m 38 ls [.int u4]) := by
          subst eJ3
          intro u4 H locs ls hW hl h
          refine lv_istore (lv' := [(4, .int u4), (0, .ref (A 0)), (1, .int y1), (2, .int y2), (3, .int y3)]) hx hb dX12_by_38 hl (by decide) rfl (fun ls hl => ?_)
          refine lv_iload hx hb dX12_by_40 (lv_at hl 0 rfl) ?_
          obtain ⟨J5, eJ5, h⟩ := jn_o h
          have hJ5 : ∀ (u6 : Int32)  (H : Heap) (locs : List Loc) (ls : Array Slot), WS G B s (wM G A σ) H locs → lv_has ls 7 [(0, .ref (A 0)), (1, .int y1), (2, .int y2), (3, .int y3)] → J5 u6 = some r0 → W p l e rmX12_by s m args below meth c H locs 0 0 Q (F0 m 55 ls [.int u6]) := by
            subst eJ5
            intro u6 H locs ls hW hl h
            refine lv_istore (lv' := [(5, .int u6), (0, .ref (A 0)), (1, .int y1), (2, .int y2), (3, .int y3)]) hx hb dX12_by_55 hl (by decide) rfl (fun ls hl => ?_)
            refine lv_iload hx hb dX12_by_57 (lv_at hl 0 rfl) ?_
            refine lv_iconst (v := (-1)) hx hb dX12_by_59 (by decide) ?_
            obtain ⟨J7, eJ7, h⟩ := jn_o h
            have hJ7 : ∀ (u8 : Int32)  (H : Heap) (locs : List Loc) (ls : Array Slot), WS G B s (wM G A σ) H locs → lv_has ls 7 [(0, .ref (A 0)), (1, .int y1), (2, .int y2), (3, .int y3)] → J7 u8 = some r0 → W p l e rmX12_by s m args below meth c H locs 0 0 Q (F0 m 99 ls [.int u8]) := by
              subst eJ7
              intro u8 H locs ls hW hl h
              refine lv_istore (lv' := [(6, .int u8), (0, .ref (A 0)), (1, .int y1), (2, .int y2), (3, .int y3)]) hx hb dX12_by_99 hl (by decide) rfl (fun ls hl => ?_)
              refine lv_iload hx hb dX12_by_101 (lv_at hl 0 rfl) ?_
              refine bz_eq (tgt := 110) hx hb h dX12_by_103 (by decide) (fun _ h => ?_) (fun _ h => ?_)
              · refine lv_iload_n hx hb dX12_by_110 rfl (lv_at hl 3 rfl) ?_
                refine lv_istore_n (lv' := [(2, .int y2), (6, .int u8), (0, .ref (A 0)), (1, .int y1), (3, .int y3)]) hx hb dX12_by_111 rfl hl (by decide) rfl (fun ls hl => ?_)
                refine w_iinc (lv' := [(2, .int y2), (6, .int u8), (0, .ref (A 0)), (1, .int y1)]) hx hb dX12_by_112 hl (k := 4) rfl (by decide) (by decide) rfl h (fun v9 ls hl h => ?_)
                refine lv_goto (tgt := 4) hx hb dX12_by_115 (by decide) ?_
                exact ih y2 v9 _ _ _ hW (lv_sub hl [3, 4, 1, 0] rfl) h
              · refine lv_iload_n hx hb dX12_by_106 rfl (lv_at hl 4 rfl) ?_
                refine lv_goto (tgt := 111) hx hb dX12_by_107 (by decide) ?_
                refine lv_istore_n (lv' := [(2, .int y3), (6, .int u8), (0, .ref (A 0)), (1, .int y1), (3, .int y3)]) hx hb dX12_by_111 rfl hl (by decide) rfl (fun ls hl => ?_)
                refine w_iinc (lv' := [(2, .int y3), (6, .int u8), (0, .ref (A 0)), (1, .int y1)]) hx hb dX12_by_112 hl (k := 4) rfl (by decide) (by decide) rfl h (fun v10 ls hl h => ?_)
                refine lv_goto (tgt := 4) hx hb dX12_by_115 (by decide) ?_
                exact ih y3 v10 _ _ _ hW (lv_sub hl [3, 4, 1, 0] rfl) h
            clear eJ7
            refine bc_eq (tgt := 98) hx hb h dX12_by_60 (by decide) (fun _ h => ?_) (fun _ h => ?_)
            · refine lv_iconst (v := 0) hx hb dX12_by_98 (by decide) ?_
              exact hJ7 0 _ _ _ hW (lv_sub hl [1, 2, 3, 4] rfl) h
            · refine lv_iload hx hb dX12_by_63 (lv_at hl 0 rfl) ?_
              refine lv_aload_n hx hb dX12_by_65 rfl (lv_at hl 1 rfl) ?_
              refine gM_levelOf S hW lk_X12_39 dX12_by_66 ?_
              refine lv_iload_n hx hb dX12_by_69 rfl (lv_at hl 2 rfl) ?_
              refine aM_9 S hW h dX12_by_70 (fun v11 _ h => ?_)
              refine bc_ge (tgt := 98) hx hb h dX12_by_71 (by decide) (fun _ h => ?_) (fun _ h => ?_)
              · refine lv_iconst (v := 0) hx hb dX12_by_98 (by decide) ?_
                exact hJ7 0 _ _ _ hW (lv_sub hl [1, 2, 3, 4] rfl) h
              · refine lv_iload_n hx hb dX12_by_74 rfl (lv_at hl 3 rfl) ?_
                refine lv_iconst (v := (-1)) hx hb dX12_by_75 (by decide) ?_
                refine bc_eq (tgt := 94) hx hb h dX12_by_76 (by decide) (fun _ h => ?_) (fun _ h => ?_)
                · refine lv_iconst (v := 1) hx hb dX12_by_94 (by decide) ?_
                  refine lv_goto (tgt := 99) hx hb dX12_by_95 (by decide) ?_
                  exact hJ7 1 _ _ _ hW (lv_sub hl [1, 2, 3, 4] rfl) h
                · refine lv_aload_n hx hb dX12_by_79 rfl (lv_at hl 1 rfl) ?_
                  refine lv_iload_n hx hb dX12_by_80 rfl (lv_at hl 4 rfl) ?_
                  refine lv_iconst (v := 1) hx hb dX12_by_81 (by decide) ?_
                  obtain ⟨v13, h12, h⟩ := bd_o h
                  refine back_i (rest := []) hW (run_V S hW (ct_X12_valueBy l n G A σ _ y3 1 h12) mi_X12_valueBy lk_X12_192 (eM_0 G A σ) rfl rfl rfl hl (Nat.le_of_ble_eq_true rfl) dX12_by_82 ⟨Nat.le_of_ble_eq_true rfl, Nat.le_of_ble_eq_true rfl⟩ rfl rfl) (fun H locs hW => ?_)
                  refine lv_aload_n hx hb dX12_by_85 rfl (lv_at hl 1 rfl) ?_
                  refine lv_iload_n hx hb dX12_by_86 rfl (lv_at hl 3 rfl) ?_
                  refine lv_iconst (v := 1) hx hb dX12_by_87 (by decide) ?_
                  obtain ⟨v15, h14, h⟩ := bd_o h
                  refine back_i (rest := [.int v13]) hW (run_V S hW (ct_X12_valueBy l n G A σ _ y2 1 h14) mi_X12_valueBy lk_X12_192 (eM_0 G A σ) rfl rfl rfl hl (Nat.le_of_ble_eq_true rfl) dX12_by_88 ⟨Nat.le_of_ble_eq_true rfl, Nat.le_of_ble_eq_true rfl⟩ rfl rfl) (fun H locs hW => ?_)
                  refine bc_ge (tgt := 98) hx hb h dX12_by_91 (by decide) (fun _ h => ?_) (fun _ h => ?_)
                  · refine lv_iconst (v := 0) hx hb dX12_by_98 (by decide) ?_
                    exact hJ7 0 _ _ _ hW (lv_sub hl [1, 2, 3, 4] rfl) h
                  · refine lv_iconst (v := 1) hx hb dX12_by_94 (by decide) ?_
                    refine lv_goto (tgt := 99) hx hb dX12_by_95 (by decide) ?_
                    exact hJ7 1 _ _ _ hW (lv_sub hl [1, 2, 3, 4] rfl) h
          clear eJ5
          refine bz_eq (tgt := 54) hx hb h dX12_by_42 (by decide) (fun _ h => ?_) (fun _ h => ?_)
          · refine lv_iconst (v := (-1)) hx hb dX12_by_54 (by decide) ?_
            exact hJ5 (-1) _ _ _ hW (lv_sub hl [1, 2, 3, 4] rfl) h
          · refine lv_aload_n hx hb dX12_by_45 rfl (lv_at hl 1 rfl) ?_
            refine gM_levelOfAction S hW lk_X12_42 dX12_by_46 ?_
            refine lv_iload_n hx hb dX12_by_49 rfl (lv_at hl 4 rfl) ?_
            refine aM_10 S hW h dX12_by_50 (fun v16 _ h => ?_)
            refine lv_goto (tgt := 55) hx hb dX12_by_51 (by decide) ?_
            exact hJ5 v16 _ _ _ hW (lv_sub hl [1, 2, 3, 4] rfl) h
        clear eJ3
        refine bc_ne (tgt := 37) hx hb h dX12_by_30 (by decide) (fun _ h => ?_) (fun _ h => ?_)
        · refine lv_iconst (v := 1) hx hb dX12_by_33 (by decide) ?_
          refine lv_goto (tgt := 38) hx hb dX12_by_34 (by decide) ?_
          exact hJ3 1 _ _ _ hW (hl) h
        · refine lv_iconst (v := 0) hx hb dX12_by_37 (by decide) ?_
          exact hJ3 0 _ _ _ hW (hl) h
  refine hL4 a1 _ (fun w17 H locs ls hW hl h => ?_) n (-1) 0 _ _ _ hW (lv_sub hl [2, 3, 1, 0] rfl) h
  refine lv_iload_n hx hb dX12_by_118 rfl (lv_at hl 0 rfl) ?_
  exact hret H locs _ ls _ (Option.some.inj h) rfl hW dX12_by_119
def rmX12_relaxedFrom : Room := { frames := 4, cells := 0, slots := 0, locals := 94 }
def LX12_relaxedFrom_48 (σ : SC) (y2 : Int32) (K : Int32 → Option (Int32 × SC)) : Nat → Int32 → Int32 → Option (Int32 × SC)
  | 0, _, _ => none
  | k + 1, y4, y5 => if 30 ≤ y5 then K y4 else jn (fun (u8 : Int32) => if u8 = 0 then lt (y5 + 1) (fun v9 => LX12_relaxedFrom_48 σ y2 K k y4 v9) else if y4 = (-1) then lt (y5 + 1) (fun v10 => LX12_relaxedFrom_48 σ y2 K k y5 v10) else ld (ga σ 6) 30 y5 (fun v11 => ld (ga σ 6) 30 y4 (fun v12 => if v11 ≤ v12 then lt (y5 + 1) (fun v13 => LX12_relaxedFrom_48 σ y2 K k y4 v13) else lt (y5 + 1) (fun v14 => LX12_relaxedFrom_48 σ y2 K k y5 v14)))) (fun J7 => if ((((gi σ 7) &&& (y2 ^^^ (-1))) >>> (y5 &&& 31)) &&& 1) = 1 then J7 1 else J7 0)
def LX12_relaxedFrom_31 (n : Nat) (y1 : Int32) (K : SC → Int32 → Option (Int32 × SC)) : Nat → SC → Int32 → Int32 → Option (Int32 × SC)
  | 0, _, _, _ => none
  | k + 1, σ, y2, y3 => if ((gi σ 7) &&& (y2 ^^^ (-1))) = 0 then K σ y3 else LX12_relaxedFrom_48 σ y2 (fun w15 => lt (y2 ||| (1 <<< (w15 &&& 31))) (fun v16 => bd (f_X12_by n σ w15) (fun v18 => lt (y3 ||| (1 <<< (v18 &&& 31))) (fun v19 => ld (ga σ 0) 173 (0 + v18) (fun v20 => lt (si σ 7 ((gi σ 7) ||| (v20 &&& (y1 ^^^ (-1))))) (fun σ21 => LX12_relaxedFrom_31 n y1 K k σ21 v16 v19)))))) n (-1) 0
def f_X12_relaxedFrom (n : Nat) (σ : SC) (a1 : Int32) : Option (Int32 × SC) := ld (ga σ 0) 173 169 (fun v1 => lt (si σ 7 (v1 &&& (a1 ^^^ (-1)))) (fun σ2 => bd (f_X12_values n σ2 a1 1) (fun σ4 => bd (f_X12_levels n σ4 a1) (fun σ6 => LX12_relaxedFrom_31 n a1 (fun σ22 w23 => some (w23, σ22)) n σ6 0 0))))
theorem mi_X12_relaxedFrom : MI yX12_relaxedFrom cX12_relaxedFrom 7 (some .int) 1 := ⟨im_X12_relaxedFrom, se_X12_relaxedFrom, in_X12, co_X12_relaxedFrom, by decide, by decide, by decide +kernel⟩
set_option maxRecDepth 100000 in
set_option maxHeartbeats 4000000 in
theorem ct_X12_relaxedFrom (l : Launch) (n : Nat) (G : EN) (A : Nat → Nat) (σ : SC) (sz : Nat) (a1 : Int32) {r0 : Int32} {σ0 : SC} (h : f_X12_relaxedFrom n σ a1 = some (r0, σ0)) : CT l yX12_relaxedFrom cX12_relaxedFrom 7 (some .int) rmX12_relaxedFrom G sz [.ref (A 0), .int a1] (wM G A σ) (QI G (va_A (wM G A σ) sz) r0 (wM G A σ0)) := by
  unfold f_X12_relaxedFrom at h
  refine CI.intro (lv := [(0, .ref (A 0)), (1, .int a1)]) (by decide) (Nat.le_of_ble_eq_true rfl) rfl ?_
  intro p e s m args below meth c Q B S hret H locs ls hW hl
  have hx := S.1
  have hb := S.2.1
  refine lv_aload_n hx hb dX12_relaxedFrom_0 rfl (lv_at hl 0 rfl) ?_
  refine lv_aload_n hx hb dX12_relaxedFrom_1 rfl (lv_at hl 0 rfl) ?_
  refine gM_s S hW lk_X12_7 dX12_relaxedFrom_2 ?_
  refine lv_sipush (v := 169) hx hb dX12_relaxedFrom_5 (by decide) ?_
  refine aM_1 S hW h dX12_relaxedFrom_8 (fun v1 _ h => ?_)
  refine lv_iload_n hx hb dX12_relaxedFrom_9 rfl (lv_at hl 1 rfl) ?_
  refine lv_iconst (v := (-1)) hx hb dX12_relaxedFrom_10 (by decide) ?_
  refine lv_ixor hx hb dX12_relaxedFrom_11 ?_
  refine lv_iand hx hb dX12_relaxedFrom_12 ?_
  refine pM_wantedFacts S hW lk_X12_195 dX12_relaxedFrom_13 (fun σ2 H locs eσ2 hW => ?_)
  have h := lt_at eσ2 h
  refine lv_iconst (v := 0) hx hb dX12_relaxedFrom_16 (by decide) ?_
  refine lv_istore_n (lv' := [(2, .int 0), (0, .ref (A 0)), (1, .int a1)]) hx hb dX12_relaxedFrom_17 rfl hl (by decide) rfl (fun ls hl => ?_)
  refine lv_iconst (v := 0) hx hb dX12_relaxedFrom_18 (by decide) ?_
  refine lv_istore_n (lv' := [(3, .int 0), (2, .int 0), (0, .ref (A 0)), (1, .int a1)]) hx hb dX12_relaxedFrom_19 rfl hl (by decide) rfl (fun ls hl => ?_)
  refine lv_aload_n hx hb dX12_relaxedFrom_20 rfl (lv_at hl 2 rfl) ?_
  refine lv_iload_n hx hb dX12_relaxedFrom_21 rfl (lv_at hl 3 rfl) ?_
  refine lv_iconst (v := 1) hx hb dX12_relaxedFrom_22 (by decide) ?_
  obtain ⟨σ4, h3, h⟩ := bd_o h
  refine back_v (rest := []) hW (run_V S hW (ct_X12_values l n G A σ2 _ a1 1 h3) mi_X12_values lk_X12_198 (eM_0 G A σ2) rfl rfl rfl hl (Nat.le_of_ble_eq_true rfl) dX12_relaxedFrom_23 ⟨Nat.le_of_ble_eq_true rfl, Nat.le_of_ble_eq_true rfl⟩ rfl rfl) (fun H locs hW => ?_)
  refine lv_aload_n hx hb dX12_relaxedFrom_26 rfl (lv_at hl 2 rfl) ?_
  refine lv_iload_n hx hb dX12_relaxedFrom_27 rfl (lv_at hl 3 rfl) ?_
  obtain ⟨σ6, h5, h⟩ := bd_o h
  refine back_v (rest := []) hW (run_V S hW (ct_X12_levels l n G A σ4 _ a1 h5) mi_X12_levels lk_X12_202 (eM_0 G A σ4) rfl rfl rfl hl (Nat.le_of_ble_eq_true rfl) dX12_relaxedFrom_28 ⟨Nat.le_of_ble_eq_true rfl, Nat.le_of_ble_eq_true rfl⟩ rfl rfl) (fun H locs hW => ?_)
  have hL31 : ∀ (y1 : Int32) (K : SC → Int32 → Option (Int32 × SC)), (∀ (σ : SC) (z3 : Int32) (H : Heap) (locs : List Loc) (ls : Array Slot), WS G B s (wM G A σ) H locs → lv_has ls 7 [(3, .int z3)] → K σ z3 = some (r0, σ0) → W p l e rmX12_relaxedFrom s m args below meth c H locs 0 0 Q (F0 m 164 ls [])) → ∀ (k : Nat) (σ : SC) (y2 : Int32) (y3 : Int32)  (H : Heap) (locs : List Loc) (ls : Array Slot), WS G B s (wM G A σ) H locs → lv_has ls 7 [(0, .ref (A 0)), (1, .int y1), (2, .int y2), (3, .int y3)] → LX12_relaxedFrom_31 n y1 K k σ y2 y3 = some (r0, σ0) → W p l e rmX12_relaxedFrom s m args below meth c H locs 0 0 Q (F0 m 31 ls []) := by
    intro y1 K hK k
    induction k with
    | zero => intro σ y2 y3 H locs ls hW hl h; rw [LX12_relaxedFrom_31] at h; cases h
    | succ k ih =>
      intro σ y2 y3 H locs ls hW hl h
      rw [LX12_relaxedFrom_31] at h
      refine lv_aload_n hx hb dX12_relaxedFrom_31 rfl (lv_at hl 0 rfl) ?_
      refine gM_wantedFacts S hW lk_X12_195 dX12_relaxedFrom_32 ?_
      refine lv_iload_n hx hb dX12_relaxedFrom_35 rfl (lv_at hl 2 rfl) ?_
      refine lv_iconst (v := (-1)) hx hb dX12_relaxedFrom_36 (by decide) ?_
      refine lv_ixor hx hb dX12_relaxedFrom_37 ?_
      refine lv_iand hx hb dX12_relaxedFrom_38 ?_
      refine bz_eq (tgt := 164) hx hb h dX12_relaxedFrom_39 (by decide) (fun _ h => ?_) (fun _ h => ?_)
      · exact hK σ y3 _ _ _ hW (lv_sub hl [3] rfl) h
      · refine lv_iconst (v := (-1)) hx hb dX12_relaxedFrom_42 (by decide) ?_
        refine lv_istore (lv' := [(4, .int (-1)), (0, .ref (A 0)), (1, .int y1), (2, .int y2), (3, .int y3)]) hx hb dX12_relaxedFrom_43 hl (by decide) rfl (fun ls hl => ?_)
        refine lv_iconst (v := 0) hx hb dX12_relaxedFrom_45 (by decide) ?_
        refine lv_istore (lv' := [(5, .int 0), (4, .int (-1)), (0, .ref (A 0)), (1, .int y1), (2, .int y2), (3, .int y3)]) hx hb dX12_relaxedFrom_46 hl (by decide) rfl (fun ls hl => ?_)
        have hL48 : ∀ (y1 : Int32) (y2 : Int32) (y3 : Int32) (σ : SC) (K : Int32 → Option (Int32 × SC)), (∀ (z4 : Int32) (H : Heap) (locs : List Loc) (ls : Array Slot), WS G B s (wM G A σ) H locs → lv_has ls 7 [(0, .ref (A 0)), (1, .int y1), (2, .int y2), (3, .int y3), (4, .int z4)] → K z4 = some (r0, σ0) → W p l e rmX12_relaxedFrom s m args below meth c H locs 0 0 Q (F0 m 117 ls [])) → ∀ (k : Nat)  (y4 : Int32) (y5 : Int32)  (H : Heap) (locs : List Loc) (ls : Array Slot), WS G B s (wM G A σ) H locs → lv_has ls 7 [(0, .ref (A 0)), (1, .int y1), (2, .int y2), (3, .int y3), (4, .int y4), (5, .int y5)] → LX12_relaxedFrom_48 σ y2 K k y4 y5 = some (r0, σ0) → W p l e rmX12_relaxedFrom s m args below meth c H locs 0 0 Q (F0 m 48 ls []) := by
          intro y1 y2 y3 σ K hK k
          induction k with
          | zero => intro y4 y5 H locs ls hW hl h; rw [LX12_relaxedFrom_48] at h; cases h
          | succ k ih =>
            intro y4 y5 H locs ls hW hl h
            rw [LX12_relaxedFrom_48] at h
            refine lv_iload hx hb dX12_relaxedFrom_48 (lv_at hl 5 rfl) ?_
            refine lv_bipush (v := 30) hx hb dX12_relaxedFrom_50 (by decide) ?_
            refine bc_ge (tgt := 117) hx hb h dX12_relaxedFrom_52 (by decide) (fun _ h => ?_) (fun _ h => ?_)
            · exact hK y4 _ _ _ hW (lv_sub hl [0, 1, 2, 3, 4] rfl) h
            · refine lv_aload_n hx hb dX12_relaxedFrom_55 rfl (lv_at hl 0 rfl) ?_
              refine gM_wantedFacts S hW lk_X12_195 dX12_relaxedFrom_56 ?_
              refine lv_iload_n hx hb dX12_relaxedFrom_59 rfl (lv_at hl 2 rfl) ?_
              refine lv_iconst (v := (-1)) hx hb dX12_relaxedFrom_60 (by decide) ?_
              refine lv_ixor hx hb dX12_relaxedFrom_61 ?_
              refine lv_iand hx hb dX12_relaxedFrom_62 ?_
              refine lv_iload hx hb dX12_relaxedFrom_63 (lv_at hl 5 rfl) ?_
              refine lv_ishr hx hb dX12_relaxedFrom_65 ?_
              refine lv_iconst (v := 1) hx hb dX12_relaxedFrom_66 (by decide) ?_
              refine lv_iand hx hb dX12_relaxedFrom_67 ?_
              refine lv_iconst (v := 1) hx hb dX12_relaxedFrom_68 (by decide) ?_
              obtain ⟨J7, eJ7, h⟩ := jn_o h
              have hJ7 : ∀ (u8 : Int32)  (H : Heap) (locs : List Loc) (ls : Array Slot), WS G B s (wM G A σ) H locs → lv_has ls 7 [(0, .ref (A 0)), (1, .int y1), (2, .int y2), (3, .int y3), (4, .int y4), (5, .int y5)] → J7 u8 = some (r0, σ0) → W p l e rmX12_relaxedFrom s m args below meth c H locs 0 0 Q (F0 m 77 ls [.int u8]) := by
                subst eJ7
                intro u8 H locs ls hW hl h
                refine lv_istore (lv' := [(6, .int u8), (0, .ref (A 0)), (1, .int y1), (2, .int y2), (3, .int y3), (4, .int y4), (5, .int y5)]) hx hb dX12_relaxedFrom_77 hl (by decide) rfl (fun ls hl => ?_)
                refine lv_iload hx hb dX12_relaxedFrom_79 (lv_at hl 0 rfl) ?_
                refine bz_eq (tgt := 111) hx hb h dX12_relaxedFrom_81 (by decide) (fun _ h => ?_) (fun _ h => ?_)
                · refine w_iinc (lv' := [(6, .int u8), (0, .ref (A 0)), (1, .int y1), (2, .int y2), (3, .int y3), (4, .int y4)]) hx hb dX12_relaxedFrom_111 hl (k := 6) rfl (by decide) (by decide) rfl h (fun v9 ls hl h => ?_)
                  refine lv_goto (tgt := 48) hx hb dX12_relaxedFrom_114 (by decide) ?_
                  exact ih y4 v9 _ _ _ hW (lv_sub hl [2, 3, 4, 5, 6, 0] rfl) h
                · refine lv_iload hx hb dX12_relaxedFrom_84 (lv_at hl 5 rfl) ?_
                  refine lv_iconst (v := (-1)) hx hb dX12_relaxedFrom_86 (by decide) ?_
                  refine bc_eq (tgt := 107) hx hb h dX12_relaxedFrom_87 (by decide) (fun _ h => ?_) (fun _ h => ?_)
                  · refine lv_iload hx hb dX12_relaxedFrom_107 (lv_at hl 6 rfl) ?_
                    refine lv_istore (lv' := [(4, .int y5), (6, .int u8), (0, .ref (A 0)), (1, .int y1), (2, .int y2), (3, .int y3), (5, .int y5)]) hx hb dX12_relaxedFrom_109 hl (by decide) rfl (fun ls hl => ?_)
                    refine w_iinc (lv' := [(4, .int y5), (6, .int u8), (0, .ref (A 0)), (1, .int y1), (2, .int y2), (3, .int y3)]) hx hb dX12_relaxedFrom_111 hl (k := 6) rfl (by decide) (by decide) rfl h (fun v10 ls hl h => ?_)
                    refine lv_goto (tgt := 48) hx hb dX12_relaxedFrom_114 (by decide) ?_
                    exact ih y5 v10 _ _ _ hW (lv_sub hl [3, 4, 5, 6, 1, 0] rfl) h
                  · refine lv_aload_n hx hb dX12_relaxedFrom_90 rfl (lv_at hl 1 rfl) ?_
                    refine gM_levelOf S hW lk_X12_39 dX12_relaxedFrom_91 ?_
                    refine lv_iload hx hb dX12_relaxedFrom_94 (lv_at hl 6 rfl) ?_
                    refine aM_9 S hW h dX12_relaxedFrom_96 (fun v11 _ h => ?_)
                    refine lv_aload_n hx hb dX12_relaxedFrom_97 rfl (lv_at hl 1 rfl) ?_
                    refine gM_levelOf S hW lk_X12_39 dX12_relaxedFrom_98 ?_
                    refine lv_iload hx hb dX12_relaxedFrom_101 (lv_at hl 5 rfl) ?_
                    refine aM_9 S hW h dX12_relaxedFrom_103 (fun v12 _ h => ?_)
                    refine bc_le (tgt := 111) hx hb h dX12_relaxedFrom_104 (by decide) (fun _ h => ?_) (fun _ h => ?_)
                    · refine w_iinc (lv' := [(6, .int u8), (0, .ref (A 0)), (1, .int y1), (2, .int y2), (3, .int y3), (4, .int y4)]) hx hb dX12_relaxedFrom_111 hl (k := 6) rfl (by decide) (by decide) rfl h (fun v13 ls hl h => ?_)
                      refine lv_goto (tgt := 48) hx hb dX12_relaxedFrom_114 (by decide) ?_
                      exact ih y4 v13 _ _ _ hW (lv_sub hl [2, 3, 4, 5, 6, 0] rfl) h
                    · refine lv_iload hx hb dX12_relaxedFrom_107 (lv_at hl 6 rfl) ?_
                      refine lv_istore (lv' := [(4, .int y5), (6, .int u8), (0, .ref (A 0)), (1, .int y1), (2, .int y2), (3, .int y3), (5, .int y5)]) hx hb dX12_relaxedFrom_109 hl (by decide) rfl (fun ls hl => ?_)
                      refine w_iinc (lv' := [(4, .int y5), (6, .int u8), (0, .ref (A 0)), (1, .int y1), (2, .int y2), (3, .int y3)]) hx hb dX12_relaxedFrom_111 hl (k := 6) rfl (by decide) (by decide) rfl h (fun v14 ls hl h => ?_)
                      refine lv_goto (tgt := 48) hx hb dX12_relaxedFrom_114 (by decide) ?_
                      exact ih y5 v14 _ _ _ hW (lv_sub hl [3, 4, 5, 6, 1, 0] rfl) h
              clear eJ7
              refine bc_ne (tgt := 76) hx hb h dX12_relaxedFrom_69 (by decide) (fun _ h => ?_) (fun _ h => ?_)
              · refine lv_iconst (v := 1) hx hb dX12_relaxedFrom_72 (by decide) ?_
                refine lv_goto (tgt := 77) hx hb dX12_relaxedFrom_73 (by decide) ?_
                exact hJ7 1 _ _ _ hW (hl) h
              · refine lv_iconst (v := 0) hx hb dX12_relaxedFrom_76 (by decide) ?_
                exact hJ7 0 _ _ _ hW (hl) h
        refine hL48 y1 y2 y3 σ _ (fun w15 H locs ls hW hl h => ?_) n (-1) 0 _ _ _ hW (lv_sub hl [2, 3, 4, 5, 1, 0] rfl) h
        refine lv_iload_n hx hb dX12_relaxedFrom_117 rfl (lv_at hl 2 rfl) ?_
        refine lv_iconst (v := 1) hx hb dX12_relaxedFrom_118 (by decide) ?_
        refine lv_iload hx hb dX12_relaxedFrom_119 (lv_at hl 4 rfl) ?_
        refine lv_ishl hx hb dX12_relaxedFrom_121 ?_
        refine lv_ior hx hb dX12_relaxedFrom_122 ?_
        refine nm_i h (fun v16 h => ?_)
        refine lv_istore_n (lv' := [(2, .int v16), (0, .ref (A 0)), (1, .int y1), (3, .int y3), (4, .int w15)]) hx hb dX12_relaxedFrom_123 rfl hl (by decide) rfl (fun ls hl => ?_)
        refine lv_aload_n hx hb dX12_relaxedFrom_124 rfl (lv_at hl 1 rfl) ?_
        refine lv_iload hx hb dX12_relaxedFrom_125 (lv_at hl 4 rfl) ?_
        obtain ⟨v18, h17, h⟩ := bd_o h
        refine back_i (rest := []) hW (run_V S hW (ct_X12_by l n G A σ _ w15 h17) mi_X12_by lk_X12_205 (eM_0 G A σ) rfl rfl rfl hl (Nat.le_of_ble_eq_true rfl) dX12_relaxedFrom_127 ⟨Nat.le_of_ble_eq_true rfl, Nat.le_of_ble_eq_true rfl⟩ rfl rfl) (fun H locs hW => ?_)
        refine lv_istore (lv' := [(5, .int v18), (2, .int v16), (0, .ref (A 0)), (1, .int y1), (3, .int y3), (4, .int w15)]) hx hb dX12_relaxedFrom_130 hl (by decide) rfl (fun ls hl => ?_)
        refine lv_iload_n hx hb dX12_relaxedFrom_132 rfl (lv_at hl 4 rfl) ?_
        refine lv_iconst (v := 1) hx hb dX12_relaxedFrom_133 (by decide) ?_
        refine lv_iload hx hb dX12_relaxedFrom_134 (lv_at hl 0 rfl) ?_
        refine lv_ishl hx hb dX12_relaxedFrom_136 ?_
        refine lv_ior hx hb dX12_relaxedFrom_137 ?_
        refine nm_i h (fun v19 h => ?_)
        refine lv_istore_n (lv' := [(3, .int v19), (5, .int v18), (2, .int v16), (0, .ref (A 0)), (1, .int y1), (4, .int w15)]) hx hb dX12_relaxedFrom_138 rfl hl (by decide) rfl (fun ls hl => ?_)
        refine lv_aload_n hx hb dX12_relaxedFrom_139 rfl (lv_at hl 3 rfl) ?_
        refine lv_dup hx hb dX12_relaxedFrom_140 rfl ?_
        refine gM_wantedFacts S hW lk_X12_195 dX12_relaxedFrom_141 ?_
        refine lv_aload_n hx hb dX12_relaxedFrom_144 rfl (lv_at hl 3 rfl) ?_
        refine gM_s S hW lk_X12_7 dX12_relaxedFrom_145 ?_
        refine lv_iconst (v := 0) hx hb dX12_relaxedFrom_148 (by decide) ?_
        refine lv_iload hx hb dX12_relaxedFrom_149 (lv_at hl 1 rfl) ?_
        refine lv_iadd hx hb dX12_relaxedFrom_151 ?_
        refine aM_1 S hW h dX12_relaxedFrom_152 (fun v20 _ h => ?_)
        refine lv_iload_n hx hb dX12_relaxedFrom_153 rfl (lv_at hl 4 rfl) ?_
        refine lv_iconst (v := (-1)) hx hb dX12_relaxedFrom_154 (by decide) ?_
        refine lv_ixor hx hb dX12_relaxedFrom_155 ?_
        refine lv_iand hx hb dX12_relaxedFrom_156 ?_
        refine lv_ior hx hb dX12_relaxedFrom_157 ?_
        refine pM_wantedFacts S hW lk_X12_195 dX12_relaxedFrom_158 (fun σ21 H locs eσ21 hW => ?_)
        have h := lt_at eσ21 h
        refine lv_goto (tgt := 31) hx hb dX12_relaxedFrom_161 (by decide) ?_
        exact ih σ21 v16 v19 _ _ _ hW (lv_sub hl [3, 4, 2, 0] rfl) h
  refine hL31 a1 _ (fun σ22 w23 H locs ls hW hl h => ?_) n σ6 0 0 _ _ _ hW (lv_sub hl [2, 3, 1, 0] rfl) h
  refine lv_iload_n hx hb dX12_relaxedFrom_164 rfl (lv_at hl 0 rfl) ?_
  exact ret_is (wf := wM G A) hret h rfl hW dX12_relaxedFrom_165
def rmX12_isComeTo : Room := { frames := 4, cells := 0, slots := 0, locals := 91 }
def f_X12_isComeTo (n : Nat) (σ : SC) (a1 : Int32) : Option Int32 := bd (f_X12_lastLevel n σ a1 0) (fun v2 => ld (ga σ 0) 173 169 (fun v3 => some (f_X12_has v2 v3)))
theorem mi_X12_isComeTo : MI yX12_isComeTo cX12_isComeTo 2 (some .boolean) 1 := ⟨im_X12_isComeTo, se_X12_isComeTo, in_X12, co_X12_isComeTo, by decide, by decide, by decide +kernel⟩
set_option maxRecDepth 100000 in
set_option maxHeartbeats 4000000 in
theorem ct_X12_isComeTo (l : Launch) (n : Nat) (G : EN) (A : Nat → Nat) (σ : SC) (sz : Nat) (a1 : Int32) {r0 : Int32} (h : f_X12_isComeTo n σ a1 = some r0) : CT l yX12_isComeTo cX12_isComeTo 2 (some .boolean) rmX12_isComeTo G sz [.ref (A 0), .int a1] (wM G A σ) (QI G (va_A (wM G A σ) sz) r0 (wM G A σ)) := by
  unfold f_X12_isComeTo at h
  refine CI.intro (lv := [(0, .ref (A 0)), (1, .int a1)]) (by decide) (Nat.le_of_ble_eq_true rfl) rfl ?_
  intro p e s m args below meth c Q B S hret H locs ls hW hl
  have hx := S.1
  have hb := S.2.1
  refine lv_aload_n hx hb dX12_isComeTo_0 rfl (lv_at hl 0 rfl) ?_
  refine lv_iload_n hx hb dX12_isComeTo_1 rfl (lv_at hl 1 rfl) ?_
  refine lv_iconst (v := 0) hx hb dX12_isComeTo_2 (by decide) ?_
  obtain ⟨v2, h1, h⟩ := bd_o h
  refine back_i (rest := []) hW (run_V S hW (ct_X12_lastLevel l n G A σ _ a1 0 h1) mi_X12_lastLevel lk_X12_208 (eM_0 G A σ) rfl rfl rfl hl (Nat.le_of_ble_eq_true rfl) dX12_isComeTo_3 ⟨Nat.le_of_ble_eq_true rfl, Nat.le_of_ble_eq_true rfl⟩ rfl rfl) (fun H locs hW => ?_)
  refine lv_aload_n hx hb dX12_isComeTo_6 rfl (lv_at hl 0 rfl) ?_
  refine gM_s S hW lk_X12_7 dX12_isComeTo_7 ?_
  refine lv_sipush (v := 169) hx hb dX12_isComeTo_10 (by decide) ?_
  refine aM_1 S hW h dX12_isComeTo_13 (fun v3 _ h => ?_)
  refine back_i (rest := []) hW (run_S S hW (ct_X12_has l G A σ _ v2 v3 rfl) ms_X12_has lk_X12_161 rfl rfl hl (Nat.le_of_ble_eq_true rfl) dX12_isComeTo_14 ⟨Nat.le_of_ble_eq_true rfl, Nat.le_of_ble_eq_true rfl⟩ rfl rfl) (fun H locs hW => ?_)
  exact hret H locs _ ls _ (Option.some.inj h) (nar_z (z_X12_has v2 v3)) hW dX12_isComeTo_17
def rmX12_costsOf : Room := { frames := 0, cells := 0, slots := 0, locals := 0 }
def LX12_costsOf_4 (σ : SC) (y1 : Int32) (K : Int32 → Option Int32) : Nat → Int32 → Int32 → Option Int32
  | 0, _, _ => none
  | k + 1, y2, y3 => ld (ga σ 0) 173 172 (fun v1 => if v1 ≤ y3 then K y2 else if ((y1 >>> (y3 &&& 31)) &&& 1) = 1 then ld (ga σ 0) 173 (72 + y3) (fun v4 => lt (y2 + v4) (fun v5 => lt (y3 + 1) (fun v6 => LX12_costsOf_4 σ y1 K k v5 v6))) else lt (y2 + 0) (fun v2 => lt (y3 + 1) (fun v3 => LX12_costsOf_4 σ y1 K k v2 v3)))
def f_X12_costsOf (n : Nat) (σ : SC) (a1 : Int32) : Option Int32 := LX12_costsOf_4 σ a1 (fun w7 => some w7) n 0 0
theorem mi_X12_costsOf : MI yX12_costsOf cX12_costsOf 4 (some .int) 1 := ⟨im_X12_costsOf, se_X12_costsOf, in_X12, co_X12_costsOf, by decide, by decide, by decide +kernel⟩
set_option maxRecDepth 100000 in
set_option maxHeartbeats 4000000 in
theorem ct_X12_costsOf (l : Launch) (n : Nat) (G : EN) (A : Nat → Nat) (σ : SC) (sz : Nat) (a1 : Int32) {r0 : Int32} (h : f_X12_costsOf n σ a1 = some r0) : CT l yX12_costsOf cX12_costsOf 4 (some .int) rmX12_costsOf G sz [.ref (A 0), .int a1] (wM G A σ) (QI G (va_A (wM G A σ) sz) r0 (wM G A σ)) := by
  unfold f_X12_costsOf at h
  refine CI.intro (lv := [(0, .ref (A 0)), (1, .int a1)]) (by decide) (Nat.le_of_ble_eq_true rfl) rfl ?_
  intro p e s m args below meth c Q B S hret H locs ls hW hl
  have hx := S.1
  have hb := S.2.1
  refine lv_iconst (v := 0) hx hb dX12_costsOf_0 (by decide) ?_
  refine lv_istore_n (lv' := [(2, .int 0), (0, .ref (A 0)), (1, .int a1)]) hx hb dX12_costsOf_1 rfl hl (by decide) rfl (fun ls hl => ?_)
  refine lv_iconst (v := 0) hx hb dX12_costsOf_2 (by decide) ?_
  refine lv_istore_n (lv' := [(3, .int 0), (2, .int 0), (0, .ref (A 0)), (1, .int a1)]) hx hb dX12_costsOf_3 rfl hl (by decide) rfl (fun ls hl => ?_)
  have hL4 : ∀ (y1 : Int32) (K : Int32 → Option Int32), (∀ (z2 : Int32) (H : Heap) (locs : List Loc) (ls : Array Slot), WS G B s (wM G A σ) H locs → lv_has ls 4 [(2, .int z2)] → K z2 = some r0 → W p l e rmX12_costsOf s m args below meth c H locs 0 0 Q (F0 m 47 ls [])) → ∀ (k : Nat)  (y2 : Int32) (y3 : Int32)  (H : Heap) (locs : List Loc) (ls : Array Slot), WS G B s (wM G A σ) H locs → lv_has ls 4 [(0, .ref (A 0)), (1, .int y1), (2, .int y2), (3, .int y3)] → LX12_costsOf_4 σ y1 K k y2 y3 = some r0 → W p l e rmX12_costsOf s m args below meth c H locs 0 0 Q (F0 m 4 ls []) := by
    intro y1 K hK k
    induction k with
    | zero => intro y2 y3 H locs ls hW hl h; rw [LX12_costsOf_4] at h; cases h
    | succ k ih =>
      intro y2 y3 H locs ls hW hl h
      rw [LX12_costsOf_4] at h
      refine lv_iload_n hx hb dX12_costsOf_4 rfl (lv_at hl 3 rfl) ?_
      refine lv_aload_n hx hb dX12_costsOf_5 rfl (lv_at hl 0 rfl) ?_
      refine gM_s S hW lk_X12_7 dX12_costsOf_6 ?_
      refine lv_sipush (v := 172) hx hb dX12_costsOf_9 (by decide) ?_
      refine aM_1 S hW h dX12_costsOf_12 (fun v1 _ h => ?_)
      refine bc_ge (tgt := 47) hx hb h dX12_costsOf_13 (by decide) (fun _ h => ?_) (fun _ h => ?_)
      · exact hK y2 _ _ _ hW (lv_sub hl [2] rfl) h
      · refine lv_iload_n hx hb dX12_costsOf_16 rfl (lv_at hl 2 rfl) ?_
        refine lv_iload_n hx hb dX12_costsOf_17 rfl (lv_at hl 1 rfl) ?_
        refine lv_iload_n hx hb dX12_costsOf_18 rfl (lv_at hl 3 rfl) ?_
        refine lv_ishr hx hb dX12_costsOf_19 ?_
        refine lv_iconst (v := 1) hx hb dX12_costsOf_20 (by decide) ?_
        refine lv_iand hx hb dX12_costsOf_21 ?_
        refine lv_iconst (v := 1) hx hb dX12_costsOf_22 (by decide) ?_
        refine bc_ne (tgt := 38) hx hb h dX12_costsOf_23 (by decide) (fun _ h => ?_) (fun _ h => ?_)
        · refine lv_aload_n hx hb dX12_costsOf_26 rfl (lv_at hl 0 rfl) ?_
          refine gM_s S hW lk_X12_7 dX12_costsOf_27 ?_
          refine lv_bipush (v := 72) hx hb dX12_costsOf_30 (by decide) ?_
          refine lv_iload_n hx hb dX12_costsOf_32 rfl (lv_at hl 3 rfl) ?_
          refine lv_iadd hx hb dX12_costsOf_33 ?_
          refine aM_1 S hW h dX12_costsOf_34 (fun v4 _ h => ?_)
          refine lv_goto (tgt := 39) hx hb dX12_costsOf_35 (by decide) ?_
          refine lv_iadd hx hb dX12_costsOf_39 ?_
          refine nm_i h (fun v5 h => ?_)
          refine lv_istore_n (lv' := [(2, .int v5), (0, .ref (A 0)), (1, .int y1), (3, .int y3)]) hx hb dX12_costsOf_40 rfl hl (by decide) rfl (fun ls hl => ?_)
          refine w_iinc (lv' := [(2, .int v5), (0, .ref (A 0)), (1, .int y1)]) hx hb dX12_costsOf_41 hl (k := 3) rfl (by decide) (by decide) rfl h (fun v6 ls hl h => ?_)
          refine lv_goto (tgt := 4) hx hb dX12_costsOf_44 (by decide) ?_
          exact ih v5 v6 _ _ _ hW (lv_sub hl [2, 3, 1, 0] rfl) h
        · refine lv_iconst (v := 0) hx hb dX12_costsOf_38 (by decide) ?_
          refine lv_iadd hx hb dX12_costsOf_39 ?_
          refine nm_i h (fun v2 h => ?_)
          refine lv_istore_n (lv' := [(2, .int v2), (0, .ref (A 0)), (1, .int y1), (3, .int y3)]) hx hb dX12_costsOf_40 rfl hl (by decide) rfl (fun ls hl => ?_)
          refine w_iinc (lv' := [(2, .int v2), (0, .ref (A 0)), (1, .int y1)]) hx hb dX12_costsOf_41 hl (k := 3) rfl (by decide) (by decide) rfl h (fun v3 ls hl h => ?_)
          refine lv_goto (tgt := 4) hx hb dX12_costsOf_44 (by decide) ?_
          exact ih v2 v3 _ _ _ hW (lv_sub hl [2, 3, 1, 0] rfl) h
  refine hL4 a1 _ (fun w7 H locs ls hW hl h => ?_) n 0 0 _ _ _ hW (lv_sub hl [2, 3, 1, 0] rfl) h
  refine lv_iload_n hx hb dX12_costsOf_47 rfl (lv_at hl 0 rfl) ?_
  exact hret H locs _ ls _ (Option.some.inj h) rfl hW dX12_costsOf_48
def rmX12_guessed : Room := { frames := 5, cells := 0, slots := 0, locals := 120 }
def f_X12_guessed (n : Nat) (σ : SC) (a1 : Int32) (a2 : Int32) : Option (Int32 × SC) := if a2 = 0 then ld (ga σ 0) 173 169 (fun v17 => bd (f_X12_countOf n (v17 &&& (a1 ^^^ (-1)))) (fun v19 => some (v19, σ))) else bd (f_X12_isComeTo n σ a1) (fun v2 => if v2 = 0 then some ((-1), σ) else if a2 = 3 then bd2 (f_X12_relaxedFrom n σ a1) (fun v14 σ13 => bd (f_X12_costsOf n σ13 v14) (fun v16 => some (v16, σ13))) else jn (fun (u4 : Int32) => bd (f_X12_values n σ a1 u4) (fun σ6 => ld (ga σ6 0) 173 169 (fun v7 => if a2 = 2 then bd (f_X12_valueOf n σ6 v7 1) (fun v11 => some (v11, σ6)) else bd (f_X12_valueOf n σ6 v7 0) (fun v9 => some (v9, σ6))))) (fun J3 => if a2 = 2 then J3 1 else J3 0))
theorem mi_X12_guessed : MI yX12_guessed cX12_guessed 3 (some .int) 2 := ⟨im_X12_guessed, se_X12_guessed, in_X12, co_X12_guessed, by decide, by decide, by decide +kernel⟩
set_option maxRecDepth 100000 in
set_option maxHeartbeats 4000000 in
theorem ct_X12_guessed (l : Launch) (n : Nat) (G : EN) (A : Nat → Nat) (σ : SC) (sz : Nat) (a1 : Int32) (a2 : Int32) {r0 : Int32} {σ0 : SC} (h : f_X12_guessed n σ a1 a2 = some (r0, σ0)) : CT l yX12_guessed cX12_guessed 3 (some .int) rmX12_guessed G sz [.ref (A 0), .int a1, .int a2] (wM G A σ) (QI G (va_A (wM G A σ) sz) r0 (wM G A σ0)) := by
  unfold f_X12_guessed at h
  refine CI.intro (lv := [(0, .ref (A 0)), (1, .int a1), (2, .int a2)]) (by decide) (Nat.le_of_ble_eq_true rfl) rfl ?_
  intro p e s m args below meth c Q B S hret H locs ls hW hl
  have hx := S.1
  have hb := S.2.1
  refine lv_iload_n hx hb dX12_guessed_0 rfl (lv_at hl 2 rfl) ?_
  refine bz_ne (tgt := 21) hx hb h dX12_guessed_1 (by decide) (fun _ h => ?_) (fun _ h => ?_)
  · refine lv_aload_n hx hb dX12_guessed_4 rfl (lv_at hl 0 rfl) ?_
    refine lv_aload_n hx hb dX12_guessed_5 rfl (lv_at hl 0 rfl) ?_
    refine gM_s S hW lk_X12_7 dX12_guessed_6 ?_
    refine lv_sipush (v := 169) hx hb dX12_guessed_9 (by decide) ?_
    refine aM_1 S hW h dX12_guessed_12 (fun v17 _ h => ?_)
    refine lv_iload_n hx hb dX12_guessed_13 rfl (lv_at hl 1 rfl) ?_
    refine lv_iconst (v := (-1)) hx hb dX12_guessed_14 (by decide) ?_
    refine lv_ixor hx hb dX12_guessed_15 ?_
    refine lv_iand hx hb dX12_guessed_16 ?_
    obtain ⟨v19, h18, h⟩ := bd_o h
    refine back_i (rest := []) hW (run_V S hW (ct_X12_countOf l n G A σ _ (v17 &&& (a1 ^^^ (-1))) h18) mi_X12_countOf lk_X12_211 (eM_0 G A σ) rfl rfl rfl hl (Nat.le_of_ble_eq_true rfl) dX12_guessed_17 ⟨Nat.le_of_ble_eq_true rfl, Nat.le_of_ble_eq_true rfl⟩ rfl rfl) (fun H locs hW => ?_)
    exact ret_is (wf := wM G A) hret h rfl hW dX12_guessed_20
  · refine lv_aload_n hx hb dX12_guessed_21 rfl (lv_at hl 0 rfl) ?_
    refine lv_iload_n hx hb dX12_guessed_22 rfl (lv_at hl 1 rfl) ?_
    obtain ⟨v2, h1, h⟩ := bd_o h
    refine back_i (rest := []) hW (run_V S hW (ct_X12_isComeTo l n G A σ _ a1 h1) mi_X12_isComeTo lk_X12_214 (eM_0 G A σ) rfl rfl rfl hl (Nat.le_of_ble_eq_true rfl) dX12_guessed_23 ⟨Nat.le_of_ble_eq_true rfl, Nat.le_of_ble_eq_true rfl⟩ rfl rfl) (fun H locs hW => ?_)
    refine bz_ne (tgt := 31) hx hb h dX12_guessed_26 (by decide) (fun _ h => ?_) (fun _ h => ?_)
    · refine lv_iconst (v := (-1)) hx hb dX12_guessed_29 (by decide) ?_
      exact ret_is (wf := wM G A) hret h rfl hW dX12_guessed_30
    · refine lv_iload_n hx hb dX12_guessed_31 rfl (lv_at hl 2 rfl) ?_
      refine lv_iconst (v := 3) hx hb dX12_guessed_32 (by decide) ?_
      refine bc_ne (tgt := 46) hx hb h dX12_guessed_33 (by decide) (fun _ h => ?_) (fun _ h => ?_)
      · refine lv_aload_n hx hb dX12_guessed_36 rfl (lv_at hl 0 rfl) ?_
        refine lv_aload_n hx hb dX12_guessed_37 rfl (lv_at hl 0 rfl) ?_
        refine lv_iload_n hx hb dX12_guessed_38 rfl (lv_at hl 1 rfl) ?_
        obtain ⟨v14, σ13, h12, h⟩ := bd2_o h
        refine back_i (rest := [.ref (A 0)]) hW (run_V S hW (ct_X12_relaxedFrom l n G A σ _ a1 h12) mi_X12_relaxedFrom lk_X12_217 (eM_0 G A σ) rfl rfl rfl hl (Nat.le_of_ble_eq_true rfl) dX12_guessed_39 ⟨Nat.le_of_ble_eq_true rfl, Nat.le_of_ble_eq_true rfl⟩ rfl rfl) (fun H locs hW => ?_)
        obtain ⟨v16, h15, h⟩ := bd_o h
        refine back_i (rest := []) hW (run_V S hW (ct_X12_costsOf l n G A σ13 _ v14 h15) mi_X12_costsOf lk_X12_220 (eM_0 G A σ13) rfl rfl rfl hl (Nat.le_of_ble_eq_true rfl) dX12_guessed_42 ⟨Nat.le_of_ble_eq_true rfl, Nat.le_of_ble_eq_true rfl⟩ rfl rfl) (fun H locs hW => ?_)
        exact ret_is (wf := wM G A) hret h rfl hW dX12_guessed_45
      · refine lv_aload_n hx hb dX12_guessed_46 rfl (lv_at hl 0 rfl) ?_
        refine lv_iload_n hx hb dX12_guessed_47 rfl (lv_at hl 1 rfl) ?_
        refine lv_iload_n hx hb dX12_guessed_48 rfl (lv_at hl 2 rfl) ?_
        refine lv_iconst (v := 2) hx hb dX12_guessed_49 (by decide) ?_
        obtain ⟨J3, eJ3, h⟩ := jn_o h
        have hJ3 : ∀ (u4 : Int32)  (H : Heap) (locs : List Loc) (ls : Array Slot), WS G B s (wM G A σ) H locs → lv_has ls 3 [(0, .ref (A 0)), (2, .int a2)] → J3 u4 = some (r0, σ0) → W p l e rmX12_guessed s m args below meth c H locs 0 0 Q (F0 m 58 ls [.int u4, .int a1, .ref (A 0)]) := by
          subst eJ3
          intro u4 H locs ls hW hl h
          obtain ⟨σ6, h5, h⟩ := bd_o h
          refine back_v (rest := []) hW (run_V S hW (ct_X12_values l n G A σ _ a1 u4 h5) mi_X12_values lk_X12_198 (eM_0 G A σ) rfl rfl rfl hl (Nat.le_of_ble_eq_true rfl) dX12_guessed_58 ⟨Nat.le_of_ble_eq_true rfl, Nat.le_of_ble_eq_true rfl⟩ rfl rfl) (fun H locs hW => ?_)
          refine lv_aload_n hx hb dX12_guessed_61 rfl (lv_at hl 0 rfl) ?_
          refine lv_aload_n hx hb dX12_guessed_62 rfl (lv_at hl 0 rfl) ?_
          refine gM_s S hW lk_X12_7 dX12_guessed_63 ?_
          refine lv_sipush (v := 169) hx hb dX12_guessed_66 (by decide) ?_
          refine aM_1 S hW h dX12_guessed_69 (fun v7 _ h => ?_)
          refine lv_iload_n hx hb dX12_guessed_70 rfl (lv_at hl 1 rfl) ?_
          refine lv_iconst (v := 2) hx hb dX12_guessed_71 (by decide) ?_
          refine bc_ne (tgt := 79) hx hb h dX12_guessed_72 (by decide) (fun _ h => ?_) (fun _ h => ?_)
          · refine lv_iconst (v := 1) hx hb dX12_guessed_75 (by decide) ?_
            refine lv_goto (tgt := 80) hx hb dX12_guessed_76 (by decide) ?_
            obtain ⟨v11, h10, h⟩ := bd_o h
            refine back_i (rest := []) hW (run_V S hW (ct_X12_valueOf l n G A σ6 _ v7 1 h10) mi_X12_valueOf lk_X12_188 (eM_0 G A σ6) rfl rfl rfl hl (Nat.le_of_ble_eq_true rfl) dX12_guessed_80 ⟨Nat.le_of_ble_eq_true rfl, Nat.le_of_ble_eq_true rfl⟩ rfl rfl) (fun H locs hW => ?_)
            exact ret_is (wf := wM G A) hret h rfl hW dX12_guessed_83
          · refine lv_iconst (v := 0) hx hb dX12_guessed_79 (by decide) ?_
            obtain ⟨v9, h8, h⟩ := bd_o h
            refine back_i (rest := []) hW (run_V S hW (ct_X12_valueOf l n G A σ6 _ v7 0 h8) mi_X12_valueOf lk_X12_188 (eM_0 G A σ6) rfl rfl rfl hl (Nat.le_of_ble_eq_true rfl) dX12_guessed_80 ⟨Nat.le_of_ble_eq_true rfl, Nat.le_of_ble_eq_true rfl⟩ rfl rfl) (fun H locs hW => ?_)
            exact ret_is (wf := wM G A) hret h rfl hW dX12_guessed_83
        clear eJ3
        refine bc_ne (tgt := 57) hx hb h dX12_guessed_50 (by decide) (fun _ h => ?_) (fun _ h => ?_)
        · refine lv_iconst (v := 1) hx hb dX12_guessed_53 (by decide) ?_
          refine lv_goto (tgt := 58) hx hb dX12_guessed_54 (by decide) ?_
          exact hJ3 1 _ _ _ hW (lv_sub hl [0, 2] rfl) h
        · refine lv_iconst (v := 0) hx hb dX12_guessed_57 (by decide) ?_
          exact hJ3 0 _ _ _ hW (lv_sub hl [0, 2] rfl) h
def rmX12_guess : Room := { frames := 6, cells := 0, slots := 0, locals := 142 }
def f_X12_guess (n : Nat) (σ : SC) (a1 : Int32) (a2 : Int32) : Option (Int32 × SC) := if (f_X12_in a2 0 3) = 0 then bd2 (f_X12_refusedBelow σ (-1)) (fun v9 σ8 => some (v9, σ8)) else if (f_X12_isSet a1) = 0 then bd2 (f_X12_refusedBelow σ (-6)) (fun v3 σ2 => some (v3, σ2)) else bd2 (f_X12_guessed n σ a1 a2) (fun v6 σ5 => some (v6, σ5))
theorem mi_X12_guess : MI yX12_guess cX12_guess 3 (some .int) 2 := ⟨im_X12_guess, se_X12_guess, in_X12, co_X12_guess, by decide, by decide, by decide +kernel⟩
set_option maxRecDepth 100000 in
set_option maxHeartbeats 4000000 in
theorem ct_X12_guess (l : Launch) (n : Nat) (G : EN) (A : Nat → Nat) (σ : SC) (sz : Nat) (a1 : Int32) (a2 : Int32) {r0 : Int32} {σ0 : SC} (h : f_X12_guess n σ a1 a2 = some (r0, σ0)) : CT l yX12_guess cX12_guess 3 (some .int) rmX12_guess G sz [.ref (A 0), .int a1, .int a2] (wM G A σ) (QI G (va_A (wM G A σ) sz) r0 (wM G A σ0)) := by
  unfold f_X12_guess at h
  refine CI.intro (lv := [(0, .ref (A 0)), (1, .int a1), (2, .int a2)]) (by decide) (Nat.le_of_ble_eq_true rfl) rfl ?_
  intro p e s m args below meth c Q B S hret H locs ls hW hl
  have hx := S.1
  have hb := S.2.1
  refine lv_iload_n hx hb dX12_guess_0 rfl (lv_at hl 2 rfl) ?_
  refine lv_iconst (v := 0) hx hb dX12_guess_1 (by decide) ?_
  refine lv_iconst (v := 3) hx hb dX12_guess_2 (by decide) ?_
  refine back_i (rest := []) hW (run_S S hW (ct_X12_in l G A σ _ a2 0 3 rfl) ms_X12_in lk_X12_67 rfl rfl hl (Nat.le_of_ble_eq_true rfl) dX12_guess_3 ⟨Nat.le_of_ble_eq_true rfl, Nat.le_of_ble_eq_true rfl⟩ rfl rfl) (fun H locs hW => ?_)
  refine bz_ne (tgt := 15) hx hb h dX12_guess_6 (by decide) (fun _ h => ?_) (fun _ h => ?_)
  · refine lv_aload_n hx hb dX12_guess_9 rfl (lv_at hl 0 rfl) ?_
    refine lv_iconst (v := (-1)) hx hb dX12_guess_10 (by decide) ?_
    obtain ⟨v9, σ8, h7, h⟩ := bd2_o h
    refine back_i (rest := []) hW (run_V S hW (ct_X12_refusedBelow l G A σ _ (-1) h7) mi_X12_refusedBelow lk_X12_177 (eM_0 G A σ) rfl rfl rfl hl (Nat.le_of_ble_eq_true rfl) dX12_guess_11 ⟨Nat.le_of_ble_eq_true rfl, Nat.le_of_ble_eq_true rfl⟩ rfl rfl) (fun H locs hW => ?_)
    exact ret_is (wf := wM G A) hret h rfl hW dX12_guess_14
  · refine lv_iload_n hx hb dX12_guess_15 rfl (lv_at hl 1 rfl) ?_
    refine back_i (rest := []) hW (run_S S hW (ct_X12_isSet l G A σ _ a1 rfl) ms_X12_isSet lk_X12_91 rfl rfl hl (Nat.le_of_ble_eq_true rfl) dX12_guess_16 ⟨Nat.le_of_ble_eq_true rfl, Nat.le_of_ble_eq_true rfl⟩ rfl rfl) (fun H locs hW => ?_)
    refine bz_eq (tgt := 31) hx hb h dX12_guess_19 (by decide) (fun _ h => ?_) (fun _ h => ?_)
    · refine lv_aload_n hx hb dX12_guess_31 rfl (lv_at hl 0 rfl) ?_
      refine lv_bipush (v := (-6)) hx hb dX12_guess_32 (by decide) ?_
      obtain ⟨v3, σ2, h1, h⟩ := bd2_o h
      refine back_i (rest := []) hW (run_V S hW (ct_X12_refusedBelow l G A σ _ (-6) h1) mi_X12_refusedBelow lk_X12_177 (eM_0 G A σ) rfl rfl rfl hl (Nat.le_of_ble_eq_true rfl) dX12_guess_34 ⟨Nat.le_of_ble_eq_true rfl, Nat.le_of_ble_eq_true rfl⟩ rfl rfl) (fun H locs hW => ?_)
      exact ret_is (wf := wM G A) hret h rfl hW dX12_guess_37
    · refine lv_aload_n hx hb dX12_guess_22 rfl (lv_at hl 0 rfl) ?_
      refine lv_iload_n hx hb dX12_guess_23 rfl (lv_at hl 1 rfl) ?_
      refine lv_iload_n hx hb dX12_guess_24 rfl (lv_at hl 2 rfl) ?_
      obtain ⟨v6, σ5, h4, h⟩ := bd2_o h
      refine back_i (rest := []) hW (run_V S hW (ct_X12_guessed l n G A σ _ a1 a2 h4) mi_X12_guessed lk_X12_223 (eM_0 G A σ) rfl rfl rfl hl (Nat.le_of_ble_eq_true rfl) dX12_guess_25 ⟨Nat.le_of_ble_eq_true rfl, Nat.le_of_ble_eq_true rfl⟩ rfl rfl) (fun H locs hW => ?_)
      refine lv_goto (tgt := 37) hx hb dX12_guess_28 (by decide) ?_
      exact ret_is (wf := wM G A) hret h rfl hW dX12_guess_37
def rmX12_relaxed : Room := { frames := 5, cells := 0, slots := 0, locals := 120 }
def f_X12_relaxed (n : Nat) (σ : SC) (a1 : Int32) : Option (Int32 × SC) := if (f_X12_isSet a1) = 0 then bd2 (f_X12_refused σ (-6)) (fun v8 σ7 => some (v8, σ7)) else bd (f_X12_isComeTo n σ a1) (fun v2 => if v2 = 0 then some (0, σ) else bd2 (f_X12_relaxedFrom n σ a1) (fun v5 σ4 => some (v5, σ4)))
theorem mi_X12_relaxed : MI yX12_relaxed cX12_relaxed 2 (some .int) 1 := ⟨im_X12_relaxed, se_X12_relaxed, in_X12, co_X12_relaxed, by decide, by decide, by decide +kernel⟩
set_option maxRecDepth 100000 in
set_option maxHeartbeats 4000000 in
theorem ct_X12_relaxed (l : Launch) (n : Nat) (G : EN) (A : Nat → Nat) (σ : SC) (sz : Nat) (a1 : Int32) {r0 : Int32} {σ0 : SC} (h : f_X12_relaxed n σ a1 = some (r0, σ0)) : CT l yX12_relaxed cX12_relaxed 2 (some .int) rmX12_relaxed G sz [.ref (A 0), .int a1] (wM G A σ) (QI G (va_A (wM G A σ) sz) r0 (wM G A σ0)) := by
  unfold f_X12_relaxed at h
  refine CI.intro (lv := [(0, .ref (A 0)), (1, .int a1)]) (by decide) (Nat.le_of_ble_eq_true rfl) rfl ?_
  intro p e s m args below meth c Q B S hret H locs ls hW hl
  have hx := S.1
  have hb := S.2.1
  refine lv_iload_n hx hb dX12_relaxed_0 rfl (lv_at hl 1 rfl) ?_
  refine back_i (rest := []) hW (run_S S hW (ct_X12_isSet l G A σ _ a1 rfl) ms_X12_isSet lk_X12_91 rfl rfl hl (Nat.le_of_ble_eq_true rfl) dX12_relaxed_1 ⟨Nat.le_of_ble_eq_true rfl, Nat.le_of_ble_eq_true rfl⟩ rfl rfl) (fun H locs hW => ?_)
  refine bz_ne (tgt := 14) hx hb h dX12_relaxed_4 (by decide) (fun _ h => ?_) (fun _ h => ?_)
  · refine lv_aload_n hx hb dX12_relaxed_7 rfl (lv_at hl 0 rfl) ?_
    refine lv_bipush (v := (-6)) hx hb dX12_relaxed_8 (by decide) ?_
    obtain ⟨v8, σ7, h6, h⟩ := bd2_o h
    refine back_i (rest := []) hW (run_V S hW (ct_X12_refused l G A σ _ (-6) h6) mi_X12_refused lk_X12_75 (eM_0 G A σ) rfl rfl rfl hl (Nat.le_of_ble_eq_true rfl) dX12_relaxed_10 ⟨Nat.le_of_ble_eq_true rfl, Nat.le_of_ble_eq_true rfl⟩ rfl rfl) (fun H locs hW => ?_)
    exact ret_is (wf := wM G A) hret h rfl hW dX12_relaxed_13
  · refine lv_aload_n hx hb dX12_relaxed_14 rfl (lv_at hl 0 rfl) ?_
    refine lv_iload_n hx hb dX12_relaxed_15 rfl (lv_at hl 1 rfl) ?_
    obtain ⟨v2, h1, h⟩ := bd_o h
    refine back_i (rest := []) hW (run_V S hW (ct_X12_isComeTo l n G A σ _ a1 h1) mi_X12_isComeTo lk_X12_214 (eM_0 G A σ) rfl rfl rfl hl (Nat.le_of_ble_eq_true rfl) dX12_relaxed_16 ⟨Nat.le_of_ble_eq_true rfl, Nat.le_of_ble_eq_true rfl⟩ rfl rfl) (fun H locs hW => ?_)
    refine bz_eq (tgt := 30) hx hb h dX12_relaxed_19 (by decide) (fun _ h => ?_) (fun _ h => ?_)
    · refine lv_iconst (v := 0) hx hb dX12_relaxed_30 (by decide) ?_
      exact ret_is (wf := wM G A) hret h rfl hW dX12_relaxed_31
    · refine lv_aload_n hx hb dX12_relaxed_22 rfl (lv_at hl 0 rfl) ?_
      refine lv_iload_n hx hb dX12_relaxed_23 rfl (lv_at hl 1 rfl) ?_
      obtain ⟨v5, σ4, h3, h⟩ := bd2_o h
      refine back_i (rest := []) hW (run_V S hW (ct_X12_relaxedFrom l n G A σ _ a1 h3) mi_X12_relaxedFrom lk_X12_217 (eM_0 G A σ) rfl rfl rfl hl (Nat.le_of_ble_eq_true rfl) dX12_relaxed_24 ⟨Nat.le_of_ble_eq_true rfl, Nat.le_of_ble_eq_true rfl⟩ rfl rfl) (fun H locs hW => ?_)
      refine lv_goto (tgt := 31) hx hb dX12_relaxed_27 (by decide) ?_
      exact ret_is (wf := wM G A) hret h rfl hW dX12_relaxed_31
def rmX12_helpful : Room := { frames := 5, cells := 0, slots := 0, locals := 120 }
def LX12_helpful_51 (σ : SC) (y1 : Int32) (y2 : Int32) (K : Int32 → Option (Int32 × SC)) : Nat → Int32 → Int32 → Option (Int32 × SC)
  | 0, _, _ => none
  | k + 1, y3, y4 => ld (ga σ 0) 173 172 (fun v9 => if v9 ≤ y4 then K y3 else bd (f_X12_mayBe σ y1 y4) (fun v11 => if v11 = 0 then lt (y3 ||| 0) (fun v12 => lt (y4 + 1) (fun v13 => LX12_helpful_51 σ y1 y2 K k v12 v13)) else ld (ga σ 0) 173 (24 + y4) (fun v14 => if (v14 &&& y2) = 0 then lt (y3 ||| 0) (fun v15 => lt (y4 + 1) (fun v16 => LX12_helpful_51 σ y1 y2 K k v15 v16)) else lt (y3 ||| (1 <<< (y4 &&& 31))) (fun v17 => lt (y4 + 1) (fun v18 => LX12_helpful_51 σ y1 y2 K k v17 v18)))))
def f_X12_helpful (n : Nat) (σ : SC) (a1 : Int32) : Option (Int32 × SC) := if (f_X12_isSet a1) = 0 then bd2 (f_X12_refused σ (-6)) (fun v22 σ21 => some (v22, σ21)) else bd (f_X12_isComeTo n σ a1) (fun v2 => if v2 = 0 then some (0, σ) else bd2 (f_X12_relaxedFrom n σ a1) (fun v5 σ4 => bd (f_X12_nextLevel n σ4 a1 0) (fun v7 => lt ((v7 &&& (a1 ^^^ (-1))) &&& (gi σ4 7)) (fun v8 => LX12_helpful_51 σ4 a1 v8 (fun w19 => some (w19, σ4)) n 0 0))))
theorem mi_X12_helpful : MI yX12_helpful cX12_helpful 5 (some .int) 1 := ⟨im_X12_helpful, se_X12_helpful, in_X12, co_X12_helpful, by decide, by decide, by decide +kernel⟩
set_option maxRecDepth 100000 in
set_option maxHeartbeats 4000000 in
theorem ct_X12_helpful (l : Launch) (n : Nat) (G : EN) (A : Nat → Nat) (σ : SC) (sz : Nat) (a1 : Int32) {r0 : Int32} {σ0 : SC} (h : f_X12_helpful n σ a1 = some (r0, σ0)) : CT l yX12_helpful cX12_helpful 5 (some .int) rmX12_helpful G sz [.ref (A 0), .int a1] (wM G A σ) (QI G (va_A (wM G A σ) sz) r0 (wM G A σ0)) := by
  unfold f_X12_helpful at h
  refine CI.intro (lv := [(0, .ref (A 0)), (1, .int a1)]) (by decide) (Nat.le_of_ble_eq_true rfl) rfl ?_
  intro p e s m args below meth c Q B S hret H locs ls hW hl
  have hx := S.1
  have hb := S.2.1
  refine lv_iload_n hx hb dX12_helpful_0 rfl (lv_at hl 1 rfl) ?_
  refine back_i (rest := []) hW (run_S S hW (ct_X12_isSet l G A σ _ a1 rfl) ms_X12_isSet lk_X12_91 rfl rfl hl (Nat.le_of_ble_eq_true rfl) dX12_helpful_1 ⟨Nat.le_of_ble_eq_true rfl, Nat.le_of_ble_eq_true rfl⟩ rfl rfl) (fun H locs hW => ?_)
  refine bz_ne (tgt := 14) hx hb h dX12_helpful_4 (by decide) (fun _ h => ?_) (fun _ h => ?_)
  · refine lv_aload_n hx hb dX12_helpful_7 rfl (lv_at hl 0 rfl) ?_
    refine lv_bipush (v := (-6)) hx hb dX12_helpful_8 (by decide) ?_
    obtain ⟨v22, σ21, h20, h⟩ := bd2_o h
    refine back_i (rest := []) hW (run_V S hW (ct_X12_refused l G A σ _ (-6) h20) mi_X12_refused lk_X12_75 (eM_0 G A σ) rfl rfl rfl hl (Nat.le_of_ble_eq_true rfl) dX12_helpful_10 ⟨Nat.le_of_ble_eq_true rfl, Nat.le_of_ble_eq_true rfl⟩ rfl rfl) (fun H locs hW => ?_)
    exact ret_is (wf := wM G A) hret h rfl hW dX12_helpful_13
  · refine lv_aload_n hx hb dX12_helpful_14 rfl (lv_at hl 0 rfl) ?_
    refine lv_iload_n hx hb dX12_helpful_15 rfl (lv_at hl 1 rfl) ?_
    obtain ⟨v2, h1, h⟩ := bd_o h
    refine back_i (rest := []) hW (run_V S hW (ct_X12_isComeTo l n G A σ _ a1 h1) mi_X12_isComeTo lk_X12_214 (eM_0 G A σ) rfl rfl rfl hl (Nat.le_of_ble_eq_true rfl) dX12_helpful_16 ⟨Nat.le_of_ble_eq_true rfl, Nat.le_of_ble_eq_true rfl⟩ rfl rfl) (fun H locs hW => ?_)
    refine bz_ne (tgt := 24) hx hb h dX12_helpful_19 (by decide) (fun _ h => ?_) (fun _ h => ?_)
    · refine lv_iconst (v := 0) hx hb dX12_helpful_22 (by decide) ?_
      exact ret_is (wf := wM G A) hret h rfl hW dX12_helpful_23
    · refine lv_aload_n hx hb dX12_helpful_24 rfl (lv_at hl 0 rfl) ?_
      refine lv_iload_n hx hb dX12_helpful_25 rfl (lv_at hl 1 rfl) ?_
      obtain ⟨v5, σ4, h3, h⟩ := bd2_o h
      refine back_i (rest := []) hW (run_V S hW (ct_X12_relaxedFrom l n G A σ _ a1 h3) mi_X12_relaxedFrom lk_X12_217 (eM_0 G A σ) rfl rfl rfl hl (Nat.le_of_ble_eq_true rfl) dX12_helpful_26 ⟨Nat.le_of_ble_eq_true rfl, Nat.le_of_ble_eq_true rfl⟩ rfl rfl) (fun H locs hW => ?_)
      refine lv_pop hx hb dX12_helpful_29 rfl ?_
      refine lv_aload_n hx hb dX12_helpful_30 rfl (lv_at hl 0 rfl) ?_
      refine lv_iload_n hx hb dX12_helpful_31 rfl (lv_at hl 1 rfl) ?_
      refine lv_iconst (v := 0) hx hb dX12_helpful_32 (by decide) ?_
      obtain ⟨v7, h6, h⟩ := bd_o h
      refine back_i (rest := []) hW (run_V S hW (ct_X12_nextLevel l n G A σ4 _ a1 0 h6) mi_X12_nextLevel lk_X12_171 (eM_0 G A σ4) rfl rfl rfl hl (Nat.le_of_ble_eq_true rfl) dX12_helpful_33 ⟨Nat.le_of_ble_eq_true rfl, Nat.le_of_ble_eq_true rfl⟩ rfl rfl) (fun H locs hW => ?_)
      refine lv_iload_n hx hb dX12_helpful_36 rfl (lv_at hl 1 rfl) ?_
      refine lv_iconst (v := (-1)) hx hb dX12_helpful_37 (by decide) ?_
      refine lv_ixor hx hb dX12_helpful_38 ?_
      refine lv_iand hx hb dX12_helpful_39 ?_
      refine lv_aload_n hx hb dX12_helpful_40 rfl (lv_at hl 0 rfl) ?_
      refine gM_wantedFacts S hW lk_X12_195 dX12_helpful_41 ?_
      refine lv_iand hx hb dX12_helpful_44 ?_
      refine nm_i h (fun v8 h => ?_)
      refine lv_istore_n (lv' := [(2, .int v8), (0, .ref (A 0)), (1, .int a1)]) hx hb dX12_helpful_45 rfl hl (by decide) rfl (fun ls hl => ?_)
      refine lv_iconst (v := 0) hx hb dX12_helpful_46 (by decide) ?_
      refine lv_istore_n (lv' := [(3, .int 0), (2, .int v8), (0, .ref (A 0)), (1, .int a1)]) hx hb dX12_helpful_47 rfl hl (by decide) rfl (fun ls hl => ?_)
      refine lv_iconst (v := 0) hx hb dX12_helpful_48 (by decide) ?_
      refine lv_istore (lv' := [(4, .int 0), (3, .int 0), (2, .int v8), (0, .ref (A 0)), (1, .int a1)]) hx hb dX12_helpful_49 hl (by decide) rfl (fun ls hl => ?_)
      have hL51 : ∀ (y1 : Int32) (y2 : Int32) (σ : SC) (K : Int32 → Option (Int32 × SC)), (∀ (z3 : Int32) (H : Heap) (locs : List Loc) (ls : Array Slot), WS G B s (wM G A σ) H locs → lv_has ls 5 [(3, .int z3)] → K z3 = some (r0, σ0) → W p l e rmX12_helpful s m args below meth c H locs 0 0 Q (F0 m 106 ls [])) → ∀ (k : Nat)  (y3 : Int32) (y4 : Int32)  (H : Heap) (locs : List Loc) (ls : Array Slot), WS G B s (wM G A σ) H locs → lv_has ls 5 [(0, .ref (A 0)), (1, .int y1), (2, .int y2), (3, .int y3), (4, .int y4)] → LX12_helpful_51 σ y1 y2 K k y3 y4 = some (r0, σ0) → W p l e rmX12_helpful s m args below meth c H locs 0 0 Q (F0 m 51 ls []) := by
        intro y1 y2 σ K hK k
        induction k with
        | zero => intro y3 y4 H locs ls hW hl h; rw [LX12_helpful_51] at h; cases h
        | succ k ih =>
          intro y3 y4 H locs ls hW hl h
          rw [LX12_helpful_51] at h
          refine lv_iload hx hb dX12_helpful_51 (lv_at hl 4 rfl) ?_
          refine lv_aload_n hx hb dX12_helpful_53 rfl (lv_at hl 0 rfl) ?_
          refine gM_s S hW lk_X12_7 dX12_helpful_54 ?_
          refine lv_sipush (v := 172) hx hb dX12_helpful_57 (by decide) ?_
          refine aM_1 S hW h dX12_helpful_60 (fun v9 _ h => ?_)
          refine bc_ge (tgt := 106) hx hb h dX12_helpful_61 (by decide) (fun _ h => ?_) (fun _ h => ?_)
          · exact hK y3 _ _ _ hW (lv_sub hl [3] rfl) h
          · refine lv_iload_n hx hb dX12_helpful_64 rfl (lv_at hl 3 rfl) ?_
            refine lv_aload_n hx hb dX12_helpful_65 rfl (lv_at hl 0 rfl) ?_
            refine lv_iload_n hx hb dX12_helpful_66 rfl (lv_at hl 1 rfl) ?_
            refine lv_iload hx hb dX12_helpful_67 (lv_at hl 4 rfl) ?_
            obtain ⟨v11, h10, h⟩ := bd_o h
            refine back_i (rest := [.int y3]) hW (run_V S hW (ct_X12_mayBe l G A σ _ y1 y4 h10) mi_X12_mayBe lk_X12_165 (eM_0 G A σ) rfl rfl rfl hl (Nat.le_of_ble_eq_true rfl) dX12_helpful_69 ⟨Nat.le_of_ble_eq_true rfl, Nat.le_of_ble_eq_true rfl⟩ rfl rfl) (fun H locs hW => ?_)
            refine bz_eq (tgt := 97) hx hb h dX12_helpful_72 (by decide) (fun _ h => ?_) (fun _ h => ?_)
            · refine lv_iconst (v := 0) hx hb dX12_helpful_97 (by decide) ?_
              refine lv_ior hx hb dX12_helpful_98 ?_
              refine nm_i h (fun v12 h => ?_)
              refine lv_istore_n (lv' := [(3, .int v12), (0, .ref (A 0)), (1, .int y1), (2, .int y2), (4, .int y4)]) hx hb dX12_helpful_99 rfl hl (by decide) rfl (fun ls hl => ?_)
              refine w_iinc (lv' := [(3, .int v12), (0, .ref (A 0)), (1, .int y1), (2, .int y2)]) hx hb dX12_helpful_100 hl (k := 4) rfl (by decide) (by decide) rfl h (fun v13 ls hl h => ?_)
              refine lv_goto (tgt := 51) hx hb dX12_helpful_103 (by decide) ?_
              exact ih v12 v13 _ _ _ hW (lv_sub hl [2, 3, 4, 1, 0] rfl) h
            · refine lv_aload_n hx hb dX12_helpful_75 rfl (lv_at hl 0 rfl) ?_
              refine gM_s S hW lk_X12_7 dX12_helpful_76 ?_
              refine lv_bipush (v := 24) hx hb dX12_helpful_79 (by decide) ?_
              refine lv_iload hx hb dX12_helpful_81 (lv_at hl 4 rfl) ?_
              refine lv_iadd hx hb dX12_helpful_83 ?_
              refine aM_1 S hW h dX12_helpful_84 (fun v14 _ h => ?_)
              refine lv_iload_n hx hb dX12_helpful_85 rfl (lv_at hl 2 rfl) ?_
              refine lv_iand hx hb dX12_helpful_86 ?_
              refine bz_eq (tgt := 97) hx hb h dX12_helpful_87 (by decide) (fun _ h => ?_) (fun _ h => ?_)
              · refine lv_iconst (v := 0) hx hb dX12_helpful_97 (by decide) ?_
                refine lv_ior hx hb dX12_helpful_98 ?_
                refine nm_i h (fun v15 h => ?_)
                refine lv_istore_n (lv' := [(3, .int v15), (0, .ref (A 0)), (1, .int y1), (2, .int y2), (4, .int y4)]) hx hb dX12_helpful_99 rfl hl (by decide) rfl (fun ls hl => ?_)
                refine w_iinc (lv' := [(3, .int v15), (0, .ref (A 0)), (1, .int y1), (2, .int y2)]) hx hb dX12_helpful_100 hl (k := 4) rfl (by decide) (by decide) rfl h (fun v16 ls hl h => ?_)
                refine lv_goto (tgt := 51) hx hb dX12_helpful_103 (by decide) ?_
                exact ih v15 v16 _ _ _ hW (lv_sub hl [2, 3, 4, 1, 0] rfl) h
              · refine lv_iconst (v := 1) hx hb dX12_helpful_90 (by decide) ?_
                refine lv_iload hx hb dX12_helpful_91 (lv_at hl 4 rfl) ?_
                refine lv_ishl hx hb dX12_helpful_93 ?_
                refine lv_goto (tgt := 98) hx hb dX12_helpful_94 (by decide) ?_
                refine lv_ior hx hb dX12_helpful_98 ?_
                refine nm_i h (fun v17 h => ?_)
                refine lv_istore_n (lv' := [(3, .int v17), (0, .ref (A 0)), (1, .int y1), (2, .int y2), (4, .int y4)]) hx hb dX12_helpful_99 rfl hl (by decide) rfl (fun ls hl => ?_)
                refine w_iinc (lv' := [(3, .int v17), (0, .ref (A 0)), (1, .int y1), (2, .int y2)]) hx hb dX12_helpful_100 hl (k := 4) rfl (by decide) (by decide) rfl h (fun v18 ls hl h => ?_)
                refine lv_goto (tgt := 51) hx hb dX12_helpful_103 (by decide) ?_
                exact ih v17 v18 _ _ _ hW (lv_sub hl [2, 3, 4, 1, 0] rfl) h
      refine hL51 a1 v8 σ4 _ (fun w19 H locs ls hW hl h => ?_) n 0 0 _ _ _ hW (lv_sub hl [3, 4, 2, 1, 0] rfl) h
      refine lv_iload_n hx hb dX12_helpful_106 rfl (lv_at hl 0 rfl) ?_
      exact ret_is (wf := wM G A) hret h rfl hW dX12_helpful_107
def rmX12_landmarks : Room := { frames := 5, cells := 0, slots := 0, locals := 112 }
def LX12_landmarks_4 (n : Nat) (σ : SC) (K : Int32 → Option Int32) : Nat → Int32 → Int32 → Option Int32
  | 0, _, _ => none
  | k + 1, y1, y2 => if 30 ≤ y2 then K y1 else ld (ga σ 0) 173 168 (fun v1 => bd (f_X12_isComeTo n σ v1) (fun v3 => if v3 = 0 then K y1 else ld (ga σ 0) 173 168 (fun v4 => bd (f_X12_lastLevel n σ v4 (1 <<< (y2 &&& 31))) (fun v6 => ld (ga σ 0) 173 169 (fun v7 => if (f_X12_has v6 v7) = 0 then lt (y1 ||| (1 <<< (y2 &&& 31))) (fun v8 => lt (y2 + 1) (fun v9 => LX12_landmarks_4 n σ K k v8 v9)) else lt (y1 ||| 0) (fun v10 => lt (y2 + 1) (fun v11 => LX12_landmarks_4 n σ K k v10 v11)))))))
def f_X12_landmarks (n : Nat) (σ : SC) : Option Int32 := LX12_landmarks_4 n σ (fun w12 => some w12) n 0 0
theorem mi_X12_landmarks : MI yX12_landmarks cX12_landmarks 3 (some .int) 0 := ⟨im_X12_landmarks, se_X12_landmarks, in_X12, co_X12_landmarks, by decide, by decide, by decide +kernel⟩
set_option maxRecDepth 100000 in
set_option maxHeartbeats 4000000 in
theorem ct_X12_landmarks (l : Launch) (n : Nat) (G : EN) (A : Nat → Nat) (σ : SC) (sz : Nat) {r0 : Int32} (h : f_X12_landmarks n σ = some r0) : CT l yX12_landmarks cX12_landmarks 3 (some .int) rmX12_landmarks G sz [.ref (A 0)] (wM G A σ) (QI G (va_A (wM G A σ) sz) r0 (wM G A σ)) := by
  unfold f_X12_landmarks at h
  refine CI.intro (lv := [(0, .ref (A 0))]) (by decide) (Nat.le_of_ble_eq_true rfl) rfl ?_
  intro p e s m args below meth c Q B S hret H locs ls hW hl
  have hx := S.1
  have hb := S.2.1
  refine lv_iconst (v := 0) hx hb dX12_landmarks_0 (by decide) ?_
  refine lv_istore_n (lv' := [(1, .int 0), (0, .ref (A 0))]) hx hb dX12_landmarks_1 rfl hl (by decide) rfl (fun ls hl => ?_)
  refine lv_iconst (v := 0) hx hb dX12_landmarks_2 (by decide) ?_
  refine lv_istore_n (lv' := [(2, .int 0), (1, .int 0), (0, .ref (A 0))]) hx hb dX12_landmarks_3 rfl hl (by decide) rfl (fun ls hl => ?_)
  have hL4 : ∀  (K : Int32 → Option Int32), (∀ (z1 : Int32) (H : Heap) (locs : List Loc) (ls : Array Slot), WS G B s (wM G A σ) H locs → lv_has ls 3 [(1, .int z1)] → K z1 = some r0 → W p l e rmX12_landmarks s m args below meth c H locs 0 0 Q (F0 m 70 ls [])) → ∀ (k : Nat)  (y1 : Int32) (y2 : Int32)  (H : Heap) (locs : List Loc) (ls : Array Slot), WS G B s (wM G A σ) H locs → lv_has ls 3 [(0, .ref (A 0)), (1, .int y1), (2, .int y2)] → LX12_landmarks_4 n σ K k y1 y2 = some r0 → W p l e rmX12_landmarks s m args below meth c H locs 0 0 Q (F0 m 4 ls []) := by
    intro  K hK k
    induction k with
    | zero => intro y1 y2 H locs ls hW hl h; rw [LX12_landmarks_4] at h; cases h
    | succ k ih =>
      intro y1 y2 H locs ls hW hl h
      rw [LX12_landmarks_4] at h
      refine lv_iload_n hx hb dX12_landmarks_4 rfl (lv_at hl 2 rfl) ?_
      refine lv_bipush (v := 30) hx hb dX12_landmarks_5 (by decide) ?_
      refine bc_ge (tgt := 70) hx hb h dX12_landmarks_7 (by decide) (fun _ h => ?_) (fun _ h => ?_)
      · exact hK y1 _ _ _ hW (lv_sub hl [1] rfl) h
      · refine lv_aload_n hx hb dX12_landmarks_10 rfl (lv_at hl 0 rfl) ?_
        refine lv_aload_n hx hb dX12_landmarks_11 rfl (lv_at hl 0 rfl) ?_
        refine gM_s S hW lk_X12_7 dX12_landmarks_12 ?_
        refine lv_sipush (v := 168) hx hb dX12_landmarks_15 (by decide) ?_
        refine aM_1 S hW h dX12_landmarks_18 (fun v1 _ h => ?_)
        obtain ⟨v3, h2, h⟩ := bd_o h
        refine back_i (rest := []) hW (run_V S hW (ct_X12_isComeTo l n G A σ _ v1 h2) mi_X12_isComeTo lk_X12_214 (eM_0 G A σ) rfl rfl rfl hl (Nat.le_of_ble_eq_true rfl) dX12_landmarks_19 ⟨Nat.le_of_ble_eq_true rfl, Nat.le_of_ble_eq_true rfl⟩ rfl rfl) (fun H locs hW => ?_)
        refine bz_eq (tgt := 70) hx hb h dX12_landmarks_22 (by decide) (fun _ h => ?_) (fun _ h => ?_)
        · exact hK y1 _ _ _ hW (lv_sub hl [1] rfl) h
        · refine lv_iload_n hx hb dX12_landmarks_25 rfl (lv_at hl 1 rfl) ?_
          refine lv_aload_n hx hb dX12_landmarks_26 rfl (lv_at hl 0 rfl) ?_
          refine lv_aload_n hx hb dX12_landmarks_27 rfl (lv_at hl 0 rfl) ?_
          refine gM_s S hW lk_X12_7 dX12_landmarks_28 ?_
          refine lv_sipush (v := 168) hx hb dX12_landmarks_31 (by decide) ?_
          refine aM_1 S hW h dX12_landmarks_34 (fun v4 _ h => ?_)
          refine lv_iconst (v := 1) hx hb dX12_landmarks_35 (by decide) ?_
          refine lv_iload_n hx hb dX12_landmarks_36 rfl (lv_at hl 2 rfl) ?_
          refine lv_ishl hx hb dX12_landmarks_37 ?_
          obtain ⟨v6, h5, h⟩ := bd_o h
          refine back_i (rest := [.int y1]) hW (run_V S hW (ct_X12_lastLevel l n G A σ _ v4 (1 <<< (y2 &&& 31)) h5) mi_X12_lastLevel lk_X12_208 (eM_0 G A σ) rfl rfl rfl hl (Nat.le_of_ble_eq_true rfl) dX12_landmarks_38 ⟨Nat.le_of_ble_eq_true rfl, Nat.le_of_ble_eq_true rfl⟩ rfl rfl) (fun H locs hW => ?_)
          refine lv_aload_n hx hb dX12_landmarks_41 rfl (lv_at hl 0 rfl) ?_
          refine gM_s S hW lk_X12_7 dX12_landmarks_42 ?_
          refine lv_sipush (v := 169) hx hb dX12_landmarks_45 (by decide) ?_
          refine aM_1 S hW h dX12_landmarks_48 (fun v7 _ h => ?_)
          refine back_i (rest := [.int y1]) hW (run_S S hW (ct_X12_has l G A σ _ v6 v7 rfl) ms_X12_has lk_X12_161 rfl rfl hl (Nat.le_of_ble_eq_true rfl) dX12_landmarks_49 ⟨Nat.le_of_ble_eq_true rfl, Nat.le_of_ble_eq_true rfl⟩ rfl rfl) (fun H locs hW => ?_)
          refine bz_eq (tgt := 59) hx hb h dX12_landmarks_52 (by decide) (fun _ h => ?_) (fun _ h => ?_)
          · refine lv_iconst (v := 1) hx hb dX12_landmarks_59 (by decide) ?_
            refine lv_iload_n hx hb dX12_landmarks_60 rfl (lv_at hl 2 rfl) ?_
            refine lv_ishl hx hb dX12_landmarks_61 ?_
            refine lv_ior hx hb dX12_landmarks_62 ?_
            refine nm_i h (fun v8 h => ?_)
            refine lv_istore_n (lv' := [(1, .int v8), (0, .ref (A 0)), (2, .int y2)]) hx hb dX12_landmarks_63 rfl hl (by decide) rfl (fun ls hl => ?_)
            refine w_iinc (lv' := [(1, .int v8), (0, .ref (A 0))]) hx hb dX12_landmarks_64 hl (k := 2) rfl (by decide) (by decide) rfl h (fun v9 ls hl h => ?_)
            refine lv_goto (tgt := 4) hx hb dX12_landmarks_67 (by decide) ?_
            exact ih v8 v9 _ _ _ hW (lv_sub hl [2, 1, 0] rfl) h
          · refine lv_iconst (v := 0) hx hb dX12_landmarks_55 (by decide) ?_
            refine lv_goto (tgt := 62) hx hb dX12_landmarks_56 (by decide) ?_
            refine lv_ior hx hb dX12_landmarks_62 ?_
            refine nm_i h (fun v10 h => ?_)
            refine lv_istore_n (lv' := [(1, .int v10), (0, .ref (A 0)), (2, .int y2)]) hx hb dX12_landmarks_63 rfl hl (by decide) rfl (fun ls hl => ?_)
            refine w_iinc (lv' := [(1, .int v10), (0, .ref (A 0))]) hx hb dX12_landmarks_64 hl (k := 2) rfl (by decide) (by decide) rfl h (fun v11 ls hl h => ?_)
            refine lv_goto (tgt := 4) hx hb dX12_landmarks_67 (by decide) ?_
            exact ih v10 v11 _ _ _ hW (lv_sub hl [2, 1, 0] rfl) h
  refine hL4  _ (fun w12 H locs ls hW hl h => ?_) n 0 0 _ _ _ hW (lv_sub hl [2, 1, 0] rfl) h
  refine lv_iload_n hx hb dX12_landmarks_70 rfl (lv_at hl 0 rfl) ?_
  exact hret H locs _ ls _ (Option.some.inj h) rfl hW dX12_landmarks_71
def rmX12_isAhead : Room := { frames := 4, cells := 0, slots := 0, locals := 91 }
def f_X12_isAhead (n : Nat) (σ : SC) (a1 : Int32) (a2 : Int32) : Option (Int32 × SC) := if (f_X12_isFact a1) = 0 then bd2 (f_X12_refused σ (-1)) (fun v3 σ2 => some (v3, σ2)) else if (f_X12_isFact a2) = 0 then bd2 (f_X12_refused σ (-1)) (fun v9 σ8 => some (v9, σ8)) else if a1 = a2 then some (0, σ) else ld (ga σ 0) 173 168 (fun v4 => bd (f_X12_lastLevel n σ v4 (1 <<< (a1 &&& 31))) (fun v6 => if (f_X12_has v6 (1 <<< (a2 &&& 31))) = 0 then some (1, σ) else some (0, σ)))
theorem mi_X12_isAhead : MI yX12_isAhead cX12_isAhead 3 (some .int) 2 := ⟨im_X12_isAhead, se_X12_isAhead, in_X12, co_X12_isAhead, by decide, by decide, by decide +kernel⟩
set_option maxRecDepth 100000 in
set_option maxHeartbeats 4000000 in
theorem ct_X12_isAhead (l : Launch) (n : Nat) (G : EN) (A : Nat → Nat) (σ : SC) (sz : Nat) (a1 : Int32) (a2 : Int32) {r0 : Int32} {σ0 : SC} (h : f_X12_isAhead n σ a1 a2 = some (r0, σ0)) : CT l yX12_isAhead cX12_isAhead 3 (some .int) rmX12_isAhead G sz [.ref (A 0), .int a1, .int a2] (wM G A σ) (QI G (va_A (wM G A σ) sz) r0 (wM G A σ0)) := by
  unfold f_X12_isAhead at h
  refine CI.intro (lv := [(0, .ref (A 0)), (1, .int a1), (2, .int a2)]) (by decide) (Nat.le_of_ble_eq_true rfl) rfl ?_
  intro p e s m args below meth c Q B S hret H locs ls hW hl
  have hx := S.1
  have hb := S.2.1
  refine lv_iload_n hx hb dX12_isAhead_0 rfl (lv_at hl 1 rfl) ?_
  refine back_i (rest := []) hW (run_S S hW (ct_X12_isFact l G A σ _ a1 rfl) ms_X12_isFact lk_X12_174 rfl rfl hl (Nat.le_of_ble_eq_true rfl) dX12_isAhead_1 ⟨Nat.le_of_ble_eq_true rfl, Nat.le_of_ble_eq_true rfl⟩ rfl rfl) (fun H locs hW => ?_)
  refine bz_eq (tgt := 14) hx hb h dX12_isAhead_4 (by decide) (fun _ h => ?_) (fun _ h => ?_)
  · refine lv_aload_n hx hb dX12_isAhead_14 rfl (lv_at hl 0 rfl) ?_
    refine lv_iconst (v := (-1)) hx hb dX12_isAhead_15 (by decide) ?_
    obtain ⟨v3, σ2, h1, h⟩ := bd2_o h
    refine back_i (rest := []) hW (run_V S hW (ct_X12_refused l G A σ _ (-1) h1) mi_X12_refused lk_X12_75 (eM_0 G A σ) rfl rfl rfl hl (Nat.le_of_ble_eq_true rfl) dX12_isAhead_16 ⟨Nat.le_of_ble_eq_true rfl, Nat.le_of_ble_eq_true rfl⟩ rfl rfl) (fun H locs hW => ?_)
    exact ret_is (wf := wM G A) hret h rfl hW dX12_isAhead_19
  · refine lv_iload_n hx hb dX12_isAhead_7 rfl (lv_at hl 2 rfl) ?_
    refine back_i (rest := []) hW (run_S S hW (ct_X12_isFact l G A σ _ a2 rfl) ms_X12_isFact lk_X12_174 rfl rfl hl (Nat.le_of_ble_eq_true rfl) dX12_isAhead_8 ⟨Nat.le_of_ble_eq_true rfl, Nat.le_of_ble_eq_true rfl⟩ rfl rfl) (fun H locs hW => ?_)
    refine bz_ne (tgt := 20) hx hb h dX12_isAhead_11 (by decide) (fun _ h => ?_) (fun _ h => ?_)
    · refine lv_aload_n hx hb dX12_isAhead_14 rfl (lv_at hl 0 rfl) ?_
      refine lv_iconst (v := (-1)) hx hb dX12_isAhead_15 (by decide) ?_
      obtain ⟨v9, σ8, h7, h⟩ := bd2_o h
      refine back_i (rest := []) hW (run_V S hW (ct_X12_refused l G A σ _ (-1) h7) mi_X12_refused lk_X12_75 (eM_0 G A σ) rfl rfl rfl hl (Nat.le_of_ble_eq_true rfl) dX12_isAhead_16 ⟨Nat.le_of_ble_eq_true rfl, Nat.le_of_ble_eq_true rfl⟩ rfl rfl) (fun H locs hW => ?_)
      exact ret_is (wf := wM G A) hret h rfl hW dX12_isAhead_19
    · refine lv_iload_n hx hb dX12_isAhead_20 rfl (lv_at hl 1 rfl) ?_
      refine lv_iload_n hx hb dX12_isAhead_21 rfl (lv_at hl 2 rfl) ?_
      refine bc_eq (tgt := 49) hx hb h dX12_isAhead_22 (by decide) (fun _ h => ?_) (fun _ h => ?_)
      · refine lv_iconst (v := 0) hx hb dX12_isAhead_49 (by decide) ?_
        refine lv_goto (tgt := 54) hx hb dX12_isAhead_50 (by decide) ?_
        exact ret_is (wf := wM G A) hret h rfl hW dX12_isAhead_54
      · refine lv_aload_n hx hb dX12_isAhead_25 rfl (lv_at hl 0 rfl) ?_
        refine lv_aload_n hx hb dX12_isAhead_26 rfl (lv_at hl 0 rfl) ?_
        refine gM_s S hW lk_X12_7 dX12_isAhead_27 ?_
        refine lv_sipush (v := 168) hx hb dX12_isAhead_30 (by decide) ?_
        refine aM_1 S hW h dX12_isAhead_33 (fun v4 _ h => ?_)
        refine lv_iconst (v := 1) hx hb dX12_isAhead_34 (by decide) ?_
        refine lv_iload_n hx hb dX12_isAhead_35 rfl (lv_at hl 1 rfl) ?_
        refine lv_ishl hx hb dX12_isAhead_36 ?_
        obtain ⟨v6, h5, h⟩ := bd_o h
        refine back_i (rest := []) hW (run_V S hW (ct_X12_lastLevel l n G A σ _ v4 (1 <<< (a1 &&& 31)) h5) mi_X12_lastLevel lk_X12_208 (eM_0 G A σ) rfl rfl rfl hl (Nat.le_of_ble_eq_true rfl) dX12_isAhead_37 ⟨Nat.le_of_ble_eq_true rfl, Nat.le_of_ble_eq_true rfl⟩ rfl rfl) (fun H locs hW => ?_)
        refine lv_iconst (v := 1) hx hb dX12_isAhead_40 (by decide) ?_
        refine lv_iload_n hx hb dX12_isAhead_41 rfl (lv_at hl 2 rfl) ?_
        refine lv_ishl hx hb dX12_isAhead_42 ?_
        refine back_i (rest := []) hW (run_S S hW (ct_X12_has l G A σ _ v6 (1 <<< (a2 &&& 31)) rfl) ms_X12_has lk_X12_161 rfl rfl hl (Nat.le_of_ble_eq_true rfl) dX12_isAhead_43 ⟨Nat.le_of_ble_eq_true rfl, Nat.le_of_ble_eq_true rfl⟩ rfl rfl) (fun H locs hW => ?_)
        refine bz_eq (tgt := 53) hx hb h dX12_isAhead_46 (by decide) (fun _ h => ?_) (fun _ h => ?_)
        · refine lv_iconst (v := 1) hx hb dX12_isAhead_53 (by decide) ?_
          exact ret_is (wf := wM G A) hret h rfl hW dX12_isAhead_54
        · refine lv_iconst (v := 0) hx hb dX12_isAhead_49 (by decide) ?_
          refine lv_goto (tgt := 54) hx hb dX12_isAhead_50 (by decide) ?_
          exact ret_is (wf := wM G A) hret h rfl hW dX12_isAhead_54
def rmX12_placeOf : Room := { frames := 0, cells := 0, slots := 0, locals := 0 }
def LX12_placeOf_2 (σ : SC) (y1 : Int32) (K : Unit → Option Int32) : Nat → Int32 → Option Int32
  | 0, _ => none
  | k + 1, y2 => if (gi σ 8) ≤ y2 then K () else ld (ga σ 8) 300 y2 (fun v1 => if v1 = y1 then some y2 else lt (y2 + 1) (fun v2 => LX12_placeOf_2 σ y1 K k v2))
def f_X12_placeOf (n : Nat) (σ : SC) (a1 : Int32) : Option Int32 := LX12_placeOf_2 σ a1 (fun _ => some (-1)) n 0
theorem mi_X12_placeOf : MI yX12_placeOf cX12_placeOf 3 (some .int) 1 := ⟨im_X12_placeOf, se_X12_placeOf, in_X12, co_X12_placeOf, by decide, by decide, by decide +kernel⟩
set_option maxRecDepth 100000 in
set_option maxHeartbeats 4000000 in
theorem ct_X12_placeOf (l : Launch) (n : Nat) (G : EN) (A : Nat → Nat) (σ : SC) (sz : Nat) (a1 : Int32) {r0 : Int32} (h : f_X12_placeOf n σ a1 = some r0) : CT l yX12_placeOf cX12_placeOf 3 (some .int) rmX12_placeOf G sz [.ref (A 0), .int a1] (wM G A σ) (QI G (va_A (wM G A σ) sz) r0 (wM G A σ)) := by
  unfold f_X12_placeOf at h
  refine CI.intro (lv := [(0, .ref (A 0)), (1, .int a1)]) (by decide) (Nat.le_of_ble_eq_true rfl) rfl ?_
  intro p e s m args below meth c Q B S hret H locs ls hW hl
  have hx := S.1
  have hb := S.2.1
  refine lv_iconst (v := 0) hx hb dX12_placeOf_0 (by decide) ?_
  refine lv_istore_n (lv' := [(2, .int 0), (0, .ref (A 0)), (1, .int a1)]) hx hb dX12_placeOf_1 rfl hl (by decide) rfl (fun ls hl => ?_)
  have hL2 : ∀ (y1 : Int32) (K : Unit → Option Int32), (∀  (H : Heap) (locs : List Loc) (ls : Array Slot), WS G B s (wM G A σ) H locs → lv_has ls 3 [] → K () = some r0 → W p l e rmX12_placeOf s m args below meth c H locs 0 0 Q (F0 m 28 ls [])) → ∀ (k : Nat)  (y2 : Int32)  (H : Heap) (locs : List Loc) (ls : Array Slot), WS G B s (wM G A σ) H locs → lv_has ls 3 [(0, .ref (A 0)), (1, .int y1), (2, .int y2)] → LX12_placeOf_2 σ y1 K k y2 = some r0 → W p l e rmX12_placeOf s m args below meth c H locs 0 0 Q (F0 m 2 ls []) := by
    intro y1 K hK k
    induction k with
    | zero => intro y2 H locs ls hW hl h; rw [LX12_placeOf_2] at h; cases h
    | succ k ih =>
      intro y2 H locs ls hW hl h
      rw [LX12_placeOf_2] at h
      refine lv_iload_n hx hb dX12_placeOf_2 rfl (lv_at hl 2 rfl) ?_
      refine lv_aload_n hx hb dX12_placeOf_3 rfl (lv_at hl 0 rfl) ?_
      refine gM_stateMany S hW lk_X12_226 dX12_placeOf_4 ?_
      refine bc_ge (tgt := 28) hx hb h dX12_placeOf_7 (by decide) (fun _ h => ?_) (fun _ h => ?_)
      · exact hK  _ _ _ hW (lv_sub hl [] rfl) h
      · refine lv_aload_n hx hb dX12_placeOf_10 rfl (lv_at hl 0 rfl) ?_
        refine gM_states S hW lk_X12_45 dX12_placeOf_11 ?_
        refine lv_iload_n hx hb dX12_placeOf_14 rfl (lv_at hl 2 rfl) ?_
        refine aM_11 S hW h dX12_placeOf_15 (fun v1 _ h => ?_)
        refine lv_iload_n hx hb dX12_placeOf_16 rfl (lv_at hl 1 rfl) ?_
        refine bc_ne (tgt := 22) hx hb h dX12_placeOf_17 (by decide) (fun _ h => ?_) (fun _ h => ?_)
        · refine lv_iload_n hx hb dX12_placeOf_20 rfl (lv_at hl 2 rfl) ?_
          exact hret H locs _ ls _ (Option.some.inj h) rfl hW dX12_placeOf_21
        · refine w_iinc (lv' := [(0, .ref (A 0)), (1, .int y1)]) hx hb dX12_placeOf_22 hl (k := 2) rfl (by decide) (by decide) rfl h (fun v2 ls hl h => ?_)
          refine lv_goto (tgt := 2) hx hb dX12_placeOf_25 (by decide) ?_
          exact ih v2 _ _ _ hW (lv_sub hl [1, 2, 0] rfl) h
  refine hL2 a1 _ (fun  H locs ls hW hl h => ?_) n 0 _ _ _ hW (lv_sub hl [1, 2, 0] rfl) h
  refine lv_iconst (v := (-1)) hx hb dX12_placeOf_28 (by decide) ?_
  exact hret H locs _ ls _ (Option.some.inj h) rfl hW dX12_placeOf_29
def rmX12_goesOn : Room := { frames := 2, cells := 0, slots := 0, locals := 43 }
def LX12_goesOn_31 (n : Nat) (y1 : Int32) (K : SC → Option (Int32 × SC)) : Nat → SC → Int32 → Option (Int32 × SC)
  | 0, _, _ => none
  | k + 1, σ, y2 => ld (ga σ 0) 173 172 (fun v4 => if v4 ≤ y2 then K σ else ld (ga σ 8) 300 y1 (fun v5 => bd (f_X12_mayBe σ v5 y2) (fun v7 => jn (fun (u9 : Int32) => bd (f_X12_placeOf n σ u9) (fun v11 => jn (fun (σ13 : SC) (u14 : Int32) => ck 7200 ((24 * y1) + y2) (lt (sa σ13 11 (upd (ga σ13 11) ((24 * y1) + y2).toNatClampNeg u14)) (fun σ15 => lt (y2 + 1) (fun v16 => LX12_goesOn_31 n y1 K k σ15 v16)))) (fun J12 => if v11 = (-1) then if (gi σ 8) = 300 then some (0, σ) else lt (gi σ 8) (fun v17 => ck 300 v17 (lt (sa σ 8 (upd (ga σ 8) v17.toNatClampNeg u9)) (fun σ18 => lt (si σ18 8 ((gi σ18 8) + 1)) (fun σ19 => J12 σ19 v17)))) else J12 σ v11))) (fun J8 => if v7 = 0 then ld (ga σ 8) 300 y1 (fun v20 => J8 v20) else ld (ga σ 8) 300 y1 (fun v21 => bd (f_X12_behindIt σ v21 y2) (fun v23 => J8 v23))))))
def LX12_goesOn_21 (n : Nat) (K : SC → Option (Int32 × SC)) : Nat → SC → Int32 → Option (Int32 × SC)
  | 0, _, _ => none
  | k + 1, σ, y1 => if (gi σ 8) ≤ y1 then K σ else LX12_goesOn_31 n y1 (fun σ24 => lt (y1 + 1) (fun v25 => LX12_goesOn_21 n K k σ24 v25)) n σ 0
def f_X12_goesOn (n : Nat) (σ : SC) : Option (Int32 × SC) := ld (ga σ 0) 173 168 (fun v1 => ck 300 0 (lt (sa σ 8 (upd (ga σ 8) (0 : Int32).toNatClampNeg v1)) (fun σ2 => lt (si σ2 8 1) (fun σ3 => LX12_goesOn_21 n (fun σ26 => some (1, σ26)) n σ3 0))))
theorem mi_X12_goesOn : MI yX12_goesOn cX12_goesOn 5 (some .boolean) 0 := ⟨im_X12_goesOn, se_X12_goesOn, in_X12, co_X12_goesOn, by decide, by decide, by decide +kernel⟩
set_option maxRecDepth 100000 in
set_option maxHeartbeats 4000000 in
theorem ct_X12_goesOn (l : Launch) (n : Nat) (G : EN) (A : Nat → Nat) (σ : SC) (sz : Nat) {r0 : Int32} {σ0 : SC} (h : f_X12_goesOn n σ = some (r0, σ0)) : CT l yX12_goesOn cX12_goesOn 5 (some .boolean) rmX12_goesOn G sz [.ref (A 0)] (wM G A σ) (QI G (va_A (wM G A σ) sz) r0 (wM G A σ0)) := by
  unfold f_X12_goesOn at h
  refine CI.intro (lv := [(0, .ref (A 0))]) (by decide) (Nat.le_of_ble_eq_true rfl) rfl ?_
  intro p e s m args below meth c Q B S hret H locs ls hW hl
  have hx := S.1
  have hb := S.2.1
  refine lv_aload_n hx hb dX12_goesOn_0 rfl (lv_at hl 0 rfl) ?_
  refine gM_states S hW lk_X12_45 dX12_goesOn_1 ?_
  refine lv_iconst (v := 0) hx hb dX12_goesOn_4 (by decide) ?_
  refine lv_aload_n hx hb dX12_goesOn_5 rfl (lv_at hl 0 rfl) ?_
  refine gM_s S hW lk_X12_7 dX12_goesOn_6 ?_
  refine lv_sipush (v := 168) hx hb dX12_goesOn_9 (by decide) ?_
  refine aM_1 S hW h dX12_goesOn_12 (fun v1 _ h => ?_)
  refine sM_11 S hW h dX12_goesOn_13 (fun σ2 H locs eσ2 _ h hW => ?_)
  have h := lt_at eσ2 h
  refine lv_aload_n hx hb dX12_goesOn_14 rfl (lv_at hl 0 rfl) ?_
  refine lv_iconst (v := 1) hx hb dX12_goesOn_15 (by decide) ?_
  refine pM_stateMany S hW lk_X12_226 dX12_goesOn_16 (fun σ3 H locs eσ3 hW => ?_)
  have h := lt_at eσ3 h
  refine lv_iconst (v := 0) hx hb dX12_goesOn_19 (by decide) ?_
  refine lv_istore_n (lv' := [(1, .int 0), (0, .ref (A 0))]) hx hb dX12_goesOn_20 rfl hl (by decide) rfl (fun ls hl => ?_)
  have hL21 : ∀  (K : SC → Option (Int32 × SC)), (∀ (σ : SC) (H : Heap) (locs : List Loc) (ls : Array Slot), WS G B s (wM G A σ) H locs → lv_has ls 5 [] → K σ = some (r0, σ0) → W p l e rmX12_goesOn s m args below meth c H locs 0 0 Q (F0 m 152 ls [])) → ∀ (k : Nat) (σ : SC) (y1 : Int32)  (H : Heap) (locs : List Loc) (ls : Array Slot), WS G B s (wM G A σ) H locs → lv_has ls 5 [(0, .ref (A 0)), (1, .int y1)] → LX12_goesOn_21 n K k σ y1 = some (r0, σ0) → W p l e rmX12_goesOn s m args below meth c H locs 0 0 Q (F0 m 21 ls []) := by
    intro  K hK k
    induction k with
    | zero => intro σ y1 H locs ls hW hl h; rw [LX12_goesOn_21] at h; cases h
    | succ k ih =>
      intro σ y1 H locs ls hW hl h
      rw [LX12_goesOn_21] at h
      refine lv_iload_n hx hb dX12_goesOn_21 rfl (lv_at hl 1 rfl) ?_
      refine lv_aload_n hx hb dX12_goesOn_22 rfl (lv_at hl 0 rfl) ?_
      refine gM_stateMany S hW lk_X12_226 dX12_goesOn_23 ?_
      refine bc_ge (tgt := 152) hx hb h dX12_goesOn_26 (by decide) (fun _ h => ?_) (fun _ h => ?_)
      · exact hK σ _ _ _ hW (lv_sub hl [] rfl) h
      · refine lv_iconst (v := 0) hx hb dX12_goesOn_29 (by decide) ?_
        refine lv_istore_n (lv' := [(2, .int 0), (0, .ref (A 0)), (1, .int y1)]) hx hb dX12_goesOn_30 rfl hl (by decide) rfl (fun ls hl => ?_)
        have hL31 : ∀ (y1 : Int32) (K : SC → Option (Int32 × SC)), (∀ (σ : SC) (H : Heap) (locs : List Loc) (ls : Array Slot), WS G B s (wM G A σ) H locs → lv_has ls 5 [(0, .ref (A 0)), (1, .int y1)] → K σ = some (r0, σ0) → W p l e rmX12_goesOn s m args below meth c H locs 0 0 Q (F0 m 146 ls [])) → ∀ (k : Nat) (σ : SC) (y2 : Int32)  (H : Heap) (locs : List Loc) (ls : Array Slot), WS G B s (wM G A σ) H locs → lv_has ls 5 [(0, .ref (A 0)), (1, .int y1), (2, .int y2)] → LX12_goesOn_31 n y1 K k σ y2 = some (r0, σ0) → W p l e rmX12_goesOn s m args below meth c H locs 0 0 Q (F0 m 31 ls []) := by
          intro y1 K hK k
          induction k with
          | zero => intro σ y2 H locs ls hW hl h; rw [LX12_goesOn_31] at h; cases h
          | succ k ih =>
            intro σ y2 H locs ls hW hl h
            rw [LX12_goesOn_31] at h
            refine lv_iload_n hx hb dX12_goesOn_31 rfl (lv_at hl 2 rfl) ?_
            refine lv_aload_n hx hb dX12_goesOn_32 rfl (lv_at hl 0 rfl) ?_
            refine gM_s S hW lk_X12_7 dX12_goesOn_33 ?_
            refine lv_sipush (v := 172) hx hb dX12_goesOn_36 (by decide) ?_
            refine aM_1 S hW h dX12_goesOn_39 (fun v4 _ h => ?_)
            refine bc_ge (tgt := 146) hx hb h dX12_goesOn_40 (by decide) (fun _ h => ?_) (fun _ h => ?_)
            · exact hK σ _ _ _ hW (lv_sub hl [0, 1] rfl) h
            · refine lv_aload_n hx hb dX12_goesOn_43 rfl (lv_at hl 0 rfl) ?_
              refine lv_aload_n hx hb dX12_goesOn_44 rfl (lv_at hl 0 rfl) ?_
              refine gM_states S hW lk_X12_45 dX12_goesOn_45 ?_
              refine lv_iload_n hx hb dX12_goesOn_48 rfl (lv_at hl 1 rfl) ?_
              refine aM_11 S hW h dX12_goesOn_49 (fun v5 _ h => ?_)
              refine lv_iload_n hx hb dX12_goesOn_50 rfl (lv_at hl 2 rfl) ?_
              obtain ⟨v7, h6, h⟩ := bd_o h
              refine back_i (rest := []) hW (run_V S hW (ct_X12_mayBe l G A σ _ v5 y2 h6) mi_X12_mayBe lk_X12_165 (eM_0 G A σ) rfl rfl rfl hl (Nat.le_of_ble_eq_true rfl) dX12_goesOn_51 ⟨Nat.le_of_ble_eq_true rfl, Nat.le_of_ble_eq_true rfl⟩ rfl rfl) (fun H locs hW => ?_)
              obtain ⟨J8, eJ8, h⟩ := jn_o h
              have hJ8 : ∀ (u9 : Int32)  (H : Heap) (locs : List Loc) (ls : Array Slot), WS G B s (wM G A σ) H locs → lv_has ls 5 [(0, .ref (A 0)), (1, .int y1), (2, .int y2)] → J8 u9 = some (r0, σ0) → W p l e rmX12_goesOn s m args below meth c H locs 0 0 Q (F0 m 77 ls [.int u9]) := by
                subst eJ8
                intro u9 H locs ls hW hl h
                refine lv_istore_n (lv' := [(3, .int u9), (0, .ref (A 0)), (1, .int y1), (2, .int y2)]) hx hb dX12_goesOn_77 rfl hl (by decide) rfl (fun ls hl => ?_)
                refine lv_aload_n hx hb dX12_goesOn_78 rfl (lv_at hl 1 rfl) ?_
                refine lv_iload_n hx hb dX12_goesOn_79 rfl (lv_at hl 0 rfl) ?_
                obtain ⟨v11, h10, h⟩ := bd_o h
                refine back_i (rest := []) hW (run_V S hW (ct_X12_placeOf l n G A σ _ u9 h10) mi_X12_placeOf lk_X12_229 (eM_0 G A σ) rfl rfl rfl hl (Nat.le_of_ble_eq_true rfl) dX12_goesOn_80 ⟨Nat.le_of_ble_eq_true rfl, Nat.le_of_ble_eq_true rfl⟩ rfl rfl) (fun H locs hW => ?_)
                refine lv_istore (lv' := [(4, .int v11), (3, .int u9), (0, .ref (A 0)), (1, .int y1), (2, .int y2)]) hx hb dX12_goesOn_83 hl (by decide) rfl (fun ls hl => ?_)
                refine lv_iload hx hb dX12_goesOn_85 (lv_at hl 0 rfl) ?_
                refine lv_iconst (v := (-1)) hx hb dX12_goesOn_87 (by decide) ?_
                obtain ⟨J12, eJ12, h⟩ := jn_o h
                have hJ12 : ∀ (σ13 : SC) (u14 : Int32)  (H : Heap) (locs : List Loc) (ls : Array Slot), WS G B s (wM G A σ13) H locs → lv_has ls 5 [(0, .ref (A 0)), (1, .int y1), (2, .int y2), (4, .int u14)] → J12 σ13 u14 = some (r0, σ0) → W p l e rmX12_goesOn s m args below meth c H locs 0 0 Q (F0 m 127 ls []) := by
                  subst eJ12
                  intro σ13 u14 H locs ls hW hl h
                  refine lv_aload_n hx hb dX12_goesOn_127 rfl (lv_at hl 0 rfl) ?_
                  refine gM_nexts S hW lk_X12_54 dX12_goesOn_128 ?_
                  refine lv_bipush (v := 24) hx hb dX12_goesOn_131 (by decide) ?_
                  refine lv_iload_n hx hb dX12_goesOn_133 rfl (lv_at hl 1 rfl) ?_
                  refine lv_imul hx hb dX12_goesOn_134 ?_
                  refine lv_iload_n hx hb dX12_goesOn_135 rfl (lv_at hl 2 rfl) ?_
                  refine lv_iadd hx hb dX12_goesOn_136 ?_
                  refine lv_iload hx hb dX12_goesOn_137 (lv_at hl 3 rfl) ?_
                  refine sM_14 S hW h dX12_goesOn_139 (fun σ15 H locs eσ15 _ h hW => ?_)
                  have h := lt_at eσ15 h
                  refine w_iinc (lv' := [(0, .ref (A 0)), (1, .int y1), (4, .int u14)]) hx hb dX12_goesOn_140 hl (k := 2) rfl (by decide) (by decide) rfl h (fun v16 ls hl h => ?_)
                  refine lv_goto (tgt := 31) hx hb dX12_goesOn_143 (by decide) ?_
                  exact ih σ15 v16 _ _ _ hW (lv_sub hl [1, 2, 0] rfl) h
                clear eJ12
                refine bc_ne (tgt := 127) hx hb h dX12_goesOn_88 (by decide) (fun _ h => ?_) (fun _ h => ?_)
                · refine lv_aload_n hx hb dX12_goesOn_91 rfl (lv_at hl 2 rfl) ?_
                  refine gM_stateMany S hW lk_X12_226 dX12_goesOn_92 ?_
                  refine lv_sipush (v := 300) hx hb dX12_goesOn_95 (by decide) ?_
                  refine bc_ne (tgt := 103) hx hb h dX12_goesOn_98 (by decide) (fun _ h => ?_) (fun _ h => ?_)
                  · refine lv_iconst (v := 0) hx hb dX12_goesOn_101 (by decide) ?_
                    exact ret_is (wf := wM G A) hret h (nar_z (Or.inl rfl)) hW dX12_goesOn_102
                  · refine lv_aload_n hx hb dX12_goesOn_103 rfl (lv_at hl 2 rfl) ?_
                    refine gM_stateMany S hW lk_X12_226 dX12_goesOn_104 ?_
                    refine nm_i h (fun v17 h => ?_)
                    refine lv_istore (lv' := [(4, .int v17), (3, .int u9), (0, .ref (A 0)), (1, .int y1), (2, .int y2)]) hx hb dX12_goesOn_107 hl (by decide) rfl (fun ls hl => ?_)
                    refine lv_aload_n hx hb dX12_goesOn_109 rfl (lv_at hl 2 rfl) ?_
                    refine gM_states S hW lk_X12_45 dX12_goesOn_110 ?_
                    refine lv_iload hx hb dX12_goesOn_113 (lv_at hl 0 rfl) ?_
                    refine lv_iload_n hx hb dX12_goesOn_115 rfl (lv_at hl 1 rfl) ?_
                    refine sM_11 S hW h dX12_goesOn_116 (fun σ18 H locs eσ18 _ h hW => ?_)
                    have h := lt_at eσ18 h
                    refine lv_aload_n hx hb dX12_goesOn_117 rfl (lv_at hl 2 rfl) ?_
                    refine lv_dup hx hb dX12_goesOn_118 rfl ?_
                    refine gM_stateMany S hW lk_X12_226 dX12_goesOn_119 ?_
                    refine lv_iconst (v := 1) hx hb dX12_goesOn_122 (by decide) ?_
                    refine lv_iadd hx hb dX12_goesOn_123 ?_
                    refine pM_stateMany S hW lk_X12_226 dX12_goesOn_124 (fun σ19 H locs eσ19 hW => ?_)
                    have h := lt_at eσ19 h
                    exact hJ12 σ19 v17 _ _ _ hW (lv_sub hl [2, 3, 4, 0] rfl) h
                · exact hJ12 σ v11 _ _ _ hW (lv_sub hl [2, 3, 4, 0] rfl) h
              clear eJ8
              refine bz_eq (tgt := 71) hx hb h dX12_goesOn_54 (by decide) (fun _ h => ?_) (fun _ h => ?_)
              · refine lv_aload_n hx hb dX12_goesOn_71 rfl (lv_at hl 0 rfl) ?_
                refine gM_states S hW lk_X12_45 dX12_goesOn_72 ?_
                refine lv_iload_n hx hb dX12_goesOn_75 rfl (lv_at hl 1 rfl) ?_
                refine aM_11 S hW h dX12_goesOn_76 (fun v20 _ h => ?_)
                exact hJ8 v20 _ _ _ hW (hl) h
              · refine lv_aload_n hx hb dX12_goesOn_57 rfl (lv_at hl 0 rfl) ?_
                refine lv_aload_n hx hb dX12_goesOn_58 rfl (lv_at hl 0 rfl) ?_
                refine gM_states S hW lk_X12_45 dX12_goesOn_59 ?_
                refine lv_iload_n hx hb dX12_goesOn_62 rfl (lv_at hl 1 rfl) ?_
                refine aM_11 S hW h dX12_goesOn_63 (fun v21 _ h => ?_)
                refine lv_iload_n hx hb dX12_goesOn_64 rfl (lv_at hl 2 rfl) ?_
                obtain ⟨v23, h22, h⟩ := bd_o h
                refine back_i (rest := []) hW (run_V S hW (ct_X12_behindIt l G A σ _ v21 y2 h22) mi_X12_behindIt lk_X12_168 (eM_0 G A σ) rfl rfl rfl hl (Nat.le_of_ble_eq_true rfl) dX12_goesOn_65 ⟨Nat.le_of_ble_eq_true rfl, Nat.le_of_ble_eq_true rfl⟩ rfl rfl) (fun H locs hW => ?_)
                refine lv_goto (tgt := 77) hx hb dX12_goesOn_68 (by decide) ?_
                exact hJ8 v23 _ _ _ hW (hl) h
        refine hL31 y1 _ (fun σ24 H locs ls hW hl h => ?_) n σ 0 _ _ _ hW (lv_sub hl [1, 2, 0] rfl) h
        refine w_iinc (lv' := [(0, .ref (A 0))]) hx hb dX12_goesOn_146 hl (k := 1) rfl (by decide) (by decide) rfl h (fun v25 ls hl h => ?_)
        refine lv_goto (tgt := 21) hx hb dX12_goesOn_149 (by decide) ?_
        exact ih σ24 v25 _ _ _ hW (lv_sub hl [1, 0] rfl) h
  refine hL21  _ (fun σ26 H locs ls hW hl h => ?_) n σ3 0 _ _ _ hW (lv_sub hl [1, 0] rfl) h
  refine lv_iconst (v := 1) hx hb dX12_goesOn_152 (by decide) ?_
  exact ret_is (wf := wM G A) hret h (nar_z (Or.inr rfl)) hW dX12_goesOn_153
def rmX12_fars : Room := { frames := 0, cells := 0, slots := 0, locals := 0 }
def LX12_fars_2 (K : SC → Option SC) : Nat → SC → Int32 → Option SC
  | 0, _, _ => none
  | k + 1, σ, y1 => if (gi σ 8) ≤ y1 then K σ else if y1 = 0 then ck 300 y1 (lt (sa σ 9 (upd (ga σ 9) y1.toNatClampNeg 0)) (fun σ3 => lt (y1 + 1) (fun v4 => LX12_fars_2 K k σ3 v4))) else ck 300 y1 (lt (sa σ 9 (upd (ga σ 9) y1.toNatClampNeg 100000000)) (fun σ1 => lt (y1 + 1) (fun v2 => LX12_fars_2 K k σ1 v2)))
def LX12_fars_52 (y2 : Int32) (K : SC → Int32 → Option SC) : Nat → SC → Int32 → Int32 → Option SC
  | 0, _, _, _ => none
  | k + 1, σ, y1, y3 => ld (ga σ 0) 173 172 (fun v6 => if v6 ≤ y3 then K σ y1 else ld (ga σ 9) 300 y2 (fun v7 => if 100000000 ≤ v7 then K σ y1 else ld (ga σ 11) 7200 ((24 * y2) + y3) (fun v8 => ld (ga σ 9) 300 y2 (fun v9 => ld (ga σ 0) 173 (72 + y3) (fun v10 => ld (ga σ 9) 300 v8 (fun v11 => jn (fun (u13 : Int32) => jn (fun (u15 : Int32) => ck 300 v8 (lt (sa σ 9 (upd (ga σ 9) v8.toNatClampNeg u15)) (fun σ16 => if y1 = 0 then if u13 = 0 then lt (y3 + 1) (fun v18 => LX12_fars_52 y2 K k σ16 0 v18) else lt (y3 + 1) (fun v19 => LX12_fars_52 y2 K k σ16 1 v19) else lt (y3 + 1) (fun v17 => LX12_fars_52 y2 K k σ16 1 v17)))) (fun J14 => if u13 = 0 then ld (ga σ 9) 300 v8 (fun v20 => J14 v20) else ld (ga σ 9) 300 y2 (fun v21 => ld (ga σ 0) 173 (72 + y3) (fun v22 => J14 (v21 + v22))))) (fun J12 => if v11 ≤ (v9 + v10) then J12 0 else J12 1)))))))
def LX12_fars_42 (n : Nat) (K : SC → Int32 → Option SC) : Nat → SC → Int32 → Int32 → Option SC
  | 0, _, _, _ => none
  | k + 1, σ, y1, y2 => if (gi σ 8) ≤ y2 then K σ y1 else LX12_fars_52 y2 (fun σ23 w24 => lt (y2 + 1) (fun v25 => LX12_fars_42 n K k σ23 w24 v25)) n σ y1 0
def LX12_fars_34 (n : Nat) (K : SC → Option SC) : Nat → SC → Int32 → Option SC
  | 0, _, _ => none
  | k + 1, σ, y1 => if y1 = 0 then K σ else LX12_fars_42 n (fun σ26 w27 => LX12_fars_34 n K k σ26 w27) n σ 0 0
def f_X12_fars (n : Nat) (σ : SC) : Option SC := LX12_fars_2 (fun σ5 => LX12_fars_34 n (fun σ28 => some σ28) n σ5 1) n σ 0
theorem mi_X12_fars : MI yX12_fars cX12_fars 6 none 0 := ⟨im_X12_fars, se_X12_fars, in_X12, co_X12_fars, by decide, by decide, by decide +kernel⟩
set_option maxRecDepth 100000 in
set_option maxHeartbeats 4000000 in
theorem ct_X12_fars (l : Launch) (n : Nat) (G : EN) (A : Nat → Nat) (σ : SC) (sz : Nat) {σ0 : SC} (h : f_X12_fars n σ = some σ0) : CT l yX12_fars cX12_fars 6 none rmX12_fars G sz [.ref (A 0)] (wM G A σ) (QV G (va_A (wM G A σ) sz) (wM G A σ0)) := by
  unfold f_X12_fars at h
  refine CV.intro (lv := [(0, .ref (A 0))]) (by decide) (Nat.le_of_ble_eq_true rfl) rfl ?_
  intro p e s m args below meth c Q B S hret H locs ls hW hl
  have hx := S.1
  have hb := S.2.1
  refine lv_iconst (v := 0) hx hb dX12_fars_0 (by decide) ?_
  refine lv_istore_n (lv' := [(1, .int 0), (0, .ref (A 0))]) hx hb dX12_fars_1 rfl hl (by decide) rfl (fun ls hl => ?_)
  have hL2 : ∀  (K : SC → Option SC), (∀ (σ : SC) (H : Heap) (locs : List Loc) (ls : Array Slot), WS G B s (wM G A σ) H locs → lv_has ls 6 [(0, .ref (A 0))] → K σ = some σ0 → W p l e rmX12_fars s m args below meth c H locs 0 0 Q (F0 m 32 ls [])) → ∀ (k : Nat) (σ : SC) (y1 : Int32)  (H : Heap) (locs : List Loc) (ls : Array Slot), WS G B s (wM G A σ) H locs → lv_has ls 6 [(0, .ref (A 0)), (1, .int y1)] → LX12_fars_2 K k σ y1 = some σ0 → W p l e rmX12_fars s m args below meth c H locs 0 0 Q (F0 m 2 ls []) := by
    intro  K hK k
    induction k with
    | zero => intro σ y1 H locs ls hW hl h; rw [LX12_fars_2] at h; cases h
    | succ k ih =>
      intro σ y1 H locs ls hW hl h
      rw [LX12_fars_2] at h
      refine lv_iload_n hx hb dX12_fars_2 rfl (lv_at hl 1 rfl) ?_
      refine lv_aload_n hx hb dX12_fars_3 rfl (lv_at hl 0 rfl) ?_
      refine gM_stateMany S hW lk_X12_226 dX12_fars_4 ?_
      refine bc_ge (tgt := 32) hx hb h dX12_fars_7 (by decide) (fun _ h => ?_) (fun _ h => ?_)
      · exact hK σ _ _ _ hW (lv_sub hl [0] rfl) h
      · refine lv_aload_n hx hb dX12_fars_10 rfl (lv_at hl 0 rfl) ?_
        refine gM_far S hW lk_X12_48 dX12_fars_11 ?_
        refine lv_iload_n hx hb dX12_fars_14 rfl (lv_at hl 1 rfl) ?_
        refine lv_iload_n hx hb dX12_fars_15 rfl (lv_at hl 1 rfl) ?_
        refine bz_ne (tgt := 23) hx hb h dX12_fars_16 (by decide) (fun _ h => ?_) (fun _ h => ?_)
        · refine lv_iconst (v := 0) hx hb dX12_fars_19 (by decide) ?_
          refine lv_goto (tgt := 25) hx hb dX12_fars_20 (by decide) ?_
          refine sM_12 S hW h dX12_fars_25 (fun σ3 H locs eσ3 _ h hW => ?_)
          have h := lt_at eσ3 h
          refine w_iinc (lv' := [(0, .ref (A 0))]) hx hb dX12_fars_26 hl (k := 1) rfl (by decide) (by decide) rfl h (fun v4 ls hl h => ?_)
          refine lv_goto (tgt := 2) hx hb dX12_fars_29 (by decide) ?_
          exact ih σ3 v4 _ _ _ hW (lv_sub hl [1, 0] rfl) h
        · refine lv_ldc (v := 100000000) hx hb S.2.2.2.1 (S.2.2.2.2 _ lk_X12_183) dX12_fars_23 ?_
          refine sM_12 S hW h dX12_fars_25 (fun σ1 H locs eσ1 _ h hW => ?_)
          have h := lt_at eσ1 h
          refine w_iinc (lv' := [(0, .ref (A 0))]) hx hb dX12_fars_26 hl (k := 1) rfl (by decide) (by decide) rfl h (fun v2 ls hl h => ?_)
          refine lv_goto (tgt := 2) hx hb dX12_fars_29 (by decide) ?_
          exact ih σ1 v2 _ _ _ hW (lv_sub hl [1, 0] rfl) h
  refine hL2  _ (fun σ5 H locs ls hW hl h => ?_) n σ 0 _ _ _ hW (lv_sub hl [1, 0] rfl) h
  refine lv_iconst (v := 1) hx hb dX12_fars_32 (by decide) ?_
  refine lv_istore_n (lv' := [(1, .int 1), (0, .ref (A 0))]) hx hb dX12_fars_33 rfl hl (by decide) rfl (fun ls hl => ?_)
  have hL34 : ∀  (K : SC → Option SC), (∀ (σ : SC) (H : Heap) (locs : List Loc) (ls : Array Slot), WS G B s (wM G A σ) H locs → lv_has ls 6 [] → K σ = some σ0 → W p l e rmX12_fars s m args below meth c H locs 0 0 Q (F0 m 189 ls [])) → ∀ (k : Nat) (σ : SC) (y1 : Int32)  (H : Heap) (locs : List Loc) (ls : Array Slot), WS G B s (wM G A σ) H locs → lv_has ls 6 [(0, .ref (A 0)), (1, .int y1)] → LX12_fars_34 n K k σ y1 = some σ0 → W p l e rmX12_fars s m args below meth c H locs 0 0 Q (F0 m 34 ls []) := by
    intro  K hK k
    induction k with
    | zero => intro σ y1 H locs ls hW hl h; rw [LX12_fars_34] at h; cases h
    | succ k ih =>
      intro σ y1 H locs ls hW hl h
      rw [LX12_fars_34] at h
      refine lv_iload_n hx hb dX12_fars_34 rfl (lv_at hl 1 rfl) ?_
      refine bz_eq (tgt := 189) hx hb h dX12_fars_35 (by decide) (fun _ h => ?_) (fun _ h => ?_)
      · exact hK σ _ _ _ hW (lv_sub hl [] rfl) h
      · refine lv_iconst (v := 0) hx hb dX12_fars_38 (by decide) ?_
        refine lv_istore_n (lv' := [(1, .int 0), (0, .ref (A 0))]) hx hb dX12_fars_39 rfl hl (by decide) rfl (fun ls hl => ?_)
        refine lv_iconst (v := 0) hx hb dX12_fars_40 (by decide) ?_
        refine lv_istore_n (lv' := [(2, .int 0), (1, .int 0), (0, .ref (A 0))]) hx hb dX12_fars_41 rfl hl (by decide) rfl (fun ls hl => ?_)
        have hL42 : ∀  (K : SC → Int32 → Option SC), (∀ (σ : SC) (z1 : Int32) (H : Heap) (locs : List Loc) (ls : Array Slot), WS G B s (wM G A σ) H locs → lv_has ls 6 [(0, .ref (A 0)), (1, .int z1)] → K σ z1 = some σ0 → W p l e rmX12_fars s m args below meth c H locs 0 0 Q (F0 m 34 ls [])) → ∀ (k : Nat) (σ : SC) (y1 : Int32) (y2 : Int32)  (H : Heap) (locs : List Loc) (ls : Array Slot), WS G B s (wM G A σ) H locs → lv_has ls 6 [(0, .ref (A 0)), (1, .int y1), (2, .int y2)] → LX12_fars_42 n K k σ y1 y2 = some σ0 → W p l e rmX12_fars s m args below meth c H locs 0 0 Q (F0 m 42 ls []) := by
          intro  K hK k
          induction k with
          | zero => intro σ y1 y2 H locs ls hW hl h; rw [LX12_fars_42] at h; cases h
          | succ k ih =>
            intro σ y1 y2 H locs ls hW hl h
            rw [LX12_fars_42] at h
            refine lv_iload_n hx hb dX12_fars_42 rfl (lv_at hl 2 rfl) ?_
            refine lv_aload_n hx hb dX12_fars_43 rfl (lv_at hl 0 rfl) ?_
            refine gM_stateMany S hW lk_X12_226 dX12_fars_44 ?_
            refine bc_ge (tgt := 186) hx hb h dX12_fars_47 (by decide) (fun _ h => ?_) (fun _ h => ?_)
            · refine lv_goto (tgt := 34) hx hb dX12_fars_186 (by decide) ?_
              exact hK σ y1 _ _ _ hW (lv_sub hl [0, 1] rfl) h
            · refine lv_iconst (v := 0) hx hb dX12_fars_50 (by decide) ?_
              refine lv_istore_n (lv' := [(3, .int 0), (0, .ref (A 0)), (1, .int y1), (2, .int y2)]) hx hb dX12_fars_51 rfl hl (by decide) rfl (fun ls hl => ?_)
              have hL52 : ∀ (y2 : Int32) (K : SC → Int32 → Option SC), (∀ (σ : SC) (z1 : Int32) (H : Heap) (locs : List Loc) (ls : Array Slot), WS G B s (wM G A σ) H locs → lv_has ls 6 [(0, .ref (A 0)), (1, .int z1), (2, .int y2)] → K σ z1 = some σ0 → W p l e rmX12_fars s m args below meth c H locs 0 0 Q (F0 m 180 ls [])) → ∀ (k : Nat) (σ : SC) (y1 : Int32) (y3 : Int32)  (H : Heap) (locs : List Loc) (ls : Array Slot), WS G B s (wM G A σ) H locs → lv_has ls 6 [(0, .ref (A 0)), (1, .int y1), (2, .int y2), (3, .int y3)] → LX12_fars_52 y2 K k σ y1 y3 = some σ0 → W p l e rmX12_fars s m args below meth c H locs 0 0 Q (F0 m 52 ls []) := by
                intro y2 K hK k
                induction k with
                | zero => intro σ y1 y3 H locs ls hW hl h; rw [LX12_fars_52] at h; cases h
                | succ k ih =>
                  intro σ y1 y3 H locs ls hW hl h
                  rw [LX12_fars_52] at h
                  refine lv_iload_n hx hb dX12_fars_52 rfl (lv_at hl 3 rfl) ?_
                  refine lv_aload_n hx hb dX12_fars_53 rfl (lv_at hl 0 rfl) ?_
                  refine gM_s S hW lk_X12_7 dX12_fars_54 ?_
                  refine lv_sipush (v := 172) hx hb dX12_fars_57 (by decide) ?_
                  refine aM_1 S hW h dX12_fars_60 (fun v6 _ h => ?_)
                  refine bc_ge (tgt := 180) hx hb h dX12_fars_61 (by decide) (fun _ h => ?_) (fun _ h => ?_)
                  · exact hK σ y1 _ _ _ hW (lv_sub hl [0, 1, 2] rfl) h
                  · refine lv_aload_n hx hb dX12_fars_64 rfl (lv_at hl 0 rfl) ?_
                    refine gM_far S hW lk_X12_48 dX12_fars_65 ?_
                    refine lv_iload_n hx hb dX12_fars_68 rfl (lv_at hl 2 rfl) ?_
                    refine aM_12 S hW h dX12_fars_69 (fun v7 _ h => ?_)
                    refine lv_ldc (v := 100000000) hx hb S.2.2.2.1 (S.2.2.2.2 _ lk_X12_183) dX12_fars_70 ?_
                    refine bc_ge (tgt := 180) hx hb h dX12_fars_72 (by decide) (fun _ h => ?_) (fun _ h => ?_)
                    · exact hK σ y1 _ _ _ hW (lv_sub hl [0, 1, 2] rfl) h
                    · refine lv_aload_n hx hb dX12_fars_75 rfl (lv_at hl 0 rfl) ?_
                      refine gM_nexts S hW lk_X12_54 dX12_fars_76 ?_
                      refine lv_bipush (v := 24) hx hb dX12_fars_79 (by decide) ?_
                      refine lv_iload_n hx hb dX12_fars_81 rfl (lv_at hl 2 rfl) ?_
                      refine lv_imul hx hb dX12_fars_82 ?_
                      refine lv_iload_n hx hb dX12_fars_83 rfl (lv_at hl 3 rfl) ?_
                      refine lv_iadd hx hb dX12_fars_84 ?_
                      refine aM_14 S hW h dX12_fars_85 (fun v8 _ h => ?_)
                      refine lv_istore (lv' := [(4, .int v8), (0, .ref (A 0)), (1, .int y1), (2, .int y2), (3, .int y3)]) hx hb dX12_fars_86 hl (by decide) rfl (fun ls hl => ?_)
                      refine lv_aload_n hx hb dX12_fars_88 rfl (lv_at hl 1 rfl) ?_
                      refine gM_far S hW lk_X12_48 dX12_fars_89 ?_
                      refine lv_iload_n hx hb dX12_fars_92 rfl (lv_at hl 3 rfl) ?_
                      refine aM_12 S hW h dX12_fars_93 (fun v9 _ h => ?_)
                      refine lv_aload_n hx hb dX12_fars_94 rfl (lv_at hl 1 rfl) ?_
                      refine gM_s S hW lk_X12_7 dX12_fars_95 ?_
                      refine lv_bipush (v := 72) hx hb dX12_fars_98 (by decide) ?_
                      refine lv_iload_n hx hb dX12_fars_100 rfl (lv_at hl 4 rfl) ?_
                      refine lv_iadd hx hb dX12_fars_101 ?_
                      refine aM_1 S hW h dX12_fars_102 (fun v10 _ h => ?_)
                      refine lv_iadd hx hb dX12_fars_103 ?_
                      refine lv_aload_n hx hb dX12_fars_104 rfl (lv_at hl 1 rfl) ?_
                      refine gM_far S hW lk_X12_48 dX12_fars_105 ?_
                      refine lv_iload hx hb dX12_fars_108 (lv_at hl 0 rfl) ?_
                      refine aM_12 S hW h dX12_fars_110 (fun v11 _ h => ?_)
                      obtain ⟨J12, eJ12, h⟩ := jn_o h
                      have hJ12 : ∀ (u13 : Int32)  (H : Heap) (locs : List Loc) (ls : Array Slot), WS G B s (wM G A σ) H locs → lv_has ls 6 [(0, .ref (A 0)), (1, .int y1), (2, .int y2), (3, .int y3), (4, .int v8)] → J12 u13 = some σ0 → W p l e rmX12_fars s m args below meth c H locs 0 0 Q (F0 m 119 ls [.int u13]) := by
                        subst eJ12
                        intro u13 H locs ls hW hl h
                        refine lv_istore (lv' := [(5, .int u13), (0, .ref (A 0)), (1, .int y1), (2, .int y2), (3, .int y3), (4, .int v8)]) hx hb dX12_fars_119 hl (by decide) rfl (fun ls hl => ?_)
                        refine lv_aload_n hx hb dX12_fars_121 rfl (lv_at hl 1 rfl) ?_
                        refine gM_far S hW lk_X12_48 dX12_fars_122 ?_
                        refine lv_iload hx hb dX12_fars_125 (lv_at hl 5 rfl) ?_
                        refine lv_iload hx hb dX12_fars_127 (lv_at hl 0 rfl) ?_
                        obtain ⟨J14, eJ14, h⟩ := jn_o h
                        have hJ14 : ∀ (u15 : Int32)  (H : Heap) (locs : List Loc) (ls : Array Slot), WS G B s (wM G A σ) H locs → lv_has ls 6 [(0, .ref (A 0)), (1, .int y1), (2, .int y2), (3, .int y3), (5, .int u13)] → J14 u15 = some σ0 → W p l e rmX12_fars s m args below meth c H locs 0 0 Q (F0 m 158 ls [.int u15, .int v8, .ref (A 12)]) := by
                          subst eJ14
                          intro u15 H locs ls hW hl h
                          refine sM_12 S hW h dX12_fars_158 (fun σ16 H locs eσ16 _ h hW => ?_)
                          have h := lt_at eσ16 h
                          refine lv_iload_n hx hb dX12_fars_159 rfl (lv_at hl 1 rfl) ?_
                          refine bz_ne (tgt := 168) hx hb h dX12_fars_160 (by decide) (fun _ h => ?_) (fun _ h => ?_)
                          · refine lv_iload hx hb dX12_fars_163 (lv_at hl 4 rfl) ?_
                            refine bz_eq (tgt := 172) hx hb h dX12_fars_165 (by decide) (fun _ h => ?_) (fun _ h => ?_)
                            · refine lv_iconst (v := 0) hx hb dX12_fars_172 (by decide) ?_
                              refine lv_istore_n (lv' := [(1, .int 0), (0, .ref (A 0)), (2, .int y2), (3, .int y3), (5, .int u13)]) hx hb dX12_fars_173 rfl hl (by decide) rfl (fun ls hl => ?_)
                              refine w_iinc (lv' := [(1, .int 0), (0, .ref (A 0)), (2, .int y2), (5, .int u13)]) hx hb dX12_fars_174 hl (k := 3) rfl (by decide) (by decide) rfl h (fun v18 ls hl h => ?_)
                              refine lv_goto (tgt := 52) hx hb dX12_fars_177 (by decide) ?_
                              exact ih σ16 0 v18 _ _ _ hW (lv_sub hl [2, 1, 3, 0] rfl) h
                            · refine lv_iconst (v := 1) hx hb dX12_fars_168 (by decide) ?_
                              refine lv_goto (tgt := 173) hx hb dX12_fars_169 (by decide) ?_
                              refine lv_istore_n (lv' := [(1, .int 1), (0, .ref (A 0)), (2, .int y2), (3, .int y3), (5, .int u13)]) hx hb dX12_fars_173 rfl hl (by decide) rfl (fun ls hl => ?_)
                              refine w_iinc (lv' := [(1, .int 1), (0, .ref (A 0)), (2, .int y2), (5, .int u13)]) hx hb dX12_fars_174 hl (k := 3) rfl (by decide) (by decide) rfl h (fun v19 ls hl h => ?_)
                              refine lv_goto (tgt := 52) hx hb dX12_fars_177 (by decide) ?_
                              exact ih σ16 1 v19 _ _ _ hW (lv_sub hl [2, 1, 3, 0] rfl) h
                          · refine lv_iconst (v := 1) hx hb dX12_fars_168 (by decide) ?_
                            refine lv_goto (tgt := 173) hx hb dX12_fars_169 (by decide) ?_
                            refine lv_istore_n (lv' := [(1, .int 1), (0, .ref (A 0)), (2, .int y2), (3, .int y3), (5, .int u13)]) hx hb dX12_fars_173 rfl hl (by decide) rfl (fun ls hl => ?_)
                            refine w_iinc (lv' := [(1, .int 1), (0, .ref (A 0)), (2, .int y2), (5, .int u13)]) hx hb dX12_fars_174 hl (k := 3) rfl (by decide) (by decide) rfl h (fun v17 ls hl h => ?_)
                            refine lv_goto (tgt := 52) hx hb dX12_fars_177 (by decide) ?_
                            exact ih σ16 1 v17 _ _ _ hW (lv_sub hl [2, 1, 3, 0] rfl) h
                        clear eJ14
                        refine bz_eq (tgt := 151) hx hb h dX12_fars_129 (by decide) (fun _ h => ?_) (fun _ h => ?_)
                        · refine lv_aload_n hx hb dX12_fars_151 rfl (lv_at hl 1 rfl) ?_
                          refine gM_far S hW lk_X12_48 dX12_fars_152 ?_
                          refine lv_iload hx hb dX12_fars_155 (lv_at hl 5 rfl) ?_
                          refine aM_12 S hW h dX12_fars_157 (fun v20 _ h => ?_)
                          exact hJ14 v20 _ _ _ hW (lv_sub hl [1, 2, 3, 4, 0] rfl) h
                        · refine lv_aload_n hx hb dX12_fars_132 rfl (lv_at hl 1 rfl) ?_
                          refine gM_far S hW lk_X12_48 dX12_fars_133 ?_
                          refine lv_iload_n hx hb dX12_fars_136 rfl (lv_at hl 3 rfl) ?_
                          refine aM_12 S hW h dX12_fars_137 (fun v21 _ h => ?_)
                          refine lv_aload_n hx hb dX12_fars_138 rfl (lv_at hl 1 rfl) ?_
                          refine gM_s S hW lk_X12_7 dX12_fars_139 ?_
                          refine lv_bipush (v := 72) hx hb dX12_fars_142 (by decide) ?_
                          refine lv_iload_n hx hb dX12_fars_144 rfl (lv_at hl 4 rfl) ?_
                          refine lv_iadd hx hb dX12_fars_145 ?_
                          refine aM_1 S hW h dX12_fars_146 (fun v22 _ h => ?_)
                          refine lv_iadd hx hb dX12_fars_147 ?_
                          refine lv_goto (tgt := 158) hx hb dX12_fars_148 (by decide) ?_
                          exact hJ14 (v21 + v22) _ _ _ hW (lv_sub hl [1, 2, 3, 4, 0] rfl) h
                      clear eJ12
                      refine bc_ge (tgt := 118) hx hb h dX12_fars_111 (by decide) (fun _ h => ?_) (fun _ h => ?_)
                      · refine lv_iconst (v := 0) hx hb dX12_fars_118 (by decide) ?_
                        exact hJ12 0 _ _ _ hW (lv_sub hl [1, 2, 3, 4, 0] rfl) h
                      · refine lv_iconst (v := 1) hx hb dX12_fars_114 (by decide) ?_
                        refine lv_goto (tgt := 119) hx hb dX12_fars_115 (by decide) ?_
                        exact hJ12 1 _ _ _ hW (lv_sub hl [1, 2, 3, 4, 0] rfl) h
              refine hL52 y2 _ (fun σ23 w24 H locs ls hW hl h => ?_) n σ y1 0 _ _ _ hW (lv_sub hl [1, 2, 3, 0] rfl) h
              refine w_iinc (lv' := [(0, .ref (A 0)), (1, .int w24)]) hx hb dX12_fars_180 hl (k := 2) rfl (by decide) (by decide) rfl h (fun v25 ls hl h => ?_)
              refine lv_goto (tgt := 42) hx hb dX12_fars_183 (by decide) ?_
              exact ih σ23 w24 v25 _ _ _ hW (lv_sub hl [1, 2, 0] rfl) h
        refine hL42  _ (fun σ26 w27 H locs ls hW hl h => ?_) n σ 0 0 _ _ _ hW (lv_sub hl [2, 1, 0] rfl) h
        exact ih σ26 w27 _ _ _ hW (hl) h
  refine hL34  _ (fun σ28 H locs ls hW hl h => ?_) n σ5 1 _ _ _ hW (lv_sub hl [1, 0] rfl) h
  exact ret_vs (wf := wM G A) hret h hW dX12_fars_189
def rmX12_lefts : Room := { frames := 1, cells := 0, slots := 0, locals := 21 }
def LX12_lefts_2 (K : SC → Option SC) : Nat → SC → Int32 → Option SC
  | 0, _, _ => none
  | k + 1, σ, y1 => if (gi σ 8) ≤ y1 then K σ else ld (ga σ 8) 300 y1 (fun v1 => ld (ga σ 0) 173 169 (fun v2 => if (f_X12_has v1 v2) = 0 then ck 300 y1 (lt (sa σ 10 (upd (ga σ 10) y1.toNatClampNeg 100000000)) (fun σ3 => lt (y1 + 1) (fun v4 => LX12_lefts_2 K k σ3 v4))) else ck 300 y1 (lt (sa σ 10 (upd (ga σ 10) y1.toNatClampNeg 0)) (fun σ5 => lt (y1 + 1) (fun v6 => LX12_lefts_2 K k σ5 v6)))))
def LX12_lefts_69 (y2 : Int32) (K : SC → Int32 → Option SC) : Nat → SC → Int32 → Int32 → Option SC
  | 0, _, _, _ => none
  | k + 1, σ, y1, y3 => ld (ga σ 0) 173 172 (fun v9 => if v9 ≤ y3 then K σ y1 else ld (ga σ 11) 7200 ((24 * y2) + y3) (fun v10 => ld (ga σ 10) 300 v10 (fun v11 => ld (ga σ 0) 173 (72 + y3) (fun v12 => lt ((v11 + (1000 * v12)) + 1) (fun v13 => ld (ga σ 10) 300 y2 (fun v14 => jn (fun (u16 : Int32) => jn (fun (u18 : Int32) => ck 300 y2 (lt (sa σ 10 (upd (ga σ 10) y2.toNatClampNeg u18)) (fun σ19 => if y1 = 0 then if u16 = 0 then lt (y3 + 1) (fun v21 => LX12_lefts_69 y2 K k σ19 0 v21) else lt (y3 + 1) (fun v22 => LX12_lefts_69 y2 K k σ19 1 v22) else lt (y3 + 1) (fun v20 => LX12_lefts_69 y2 K k σ19 1 v20)))) (fun J17 => if u16 = 0 then ld (ga σ 10) 300 y2 (fun v23 => J17 v23) else J17 v13)) (fun J15 => if v14 ≤ v13 then J15 0 else J15 1)))))))
def LX12_lefts_63 (n : Nat) (K : SC → Int32 → Option SC) : Nat → SC → Int32 → Int32 → Option SC
  | 0, _, _, _ => none
  | k + 1, σ, y1, y2 => if y2 < 0 then K σ y1 else LX12_lefts_69 y2 (fun σ24 w25 => lt (y2 + (-1)) (fun v26 => LX12_lefts_63 n K k σ24 w25 v26)) n σ y1 0
def LX12_lefts_50 (n : Nat) (K : SC → Option SC) : Nat → SC → Int32 → Option SC
  | 0, _, _ => none
  | k + 1, σ, y1 => if y1 = 0 then K σ else lt ((gi σ 8) - 1) (fun v8 => LX12_lefts_63 n (fun σ27 w28 => LX12_lefts_50 n K k σ27 w28) n σ 0 v8)
def f_X12_lefts (n : Nat) (σ : SC) : Option SC := LX12_lefts_2 (fun σ7 => LX12_lefts_50 n (fun σ29 => some σ29) n σ7 1) n σ 0
theorem mi_X12_lefts : MI yX12_lefts cX12_lefts 7 none 0 := ⟨im_X12_lefts, se_X12_lefts, in_X12, co_X12_lefts, by decide, by decide, by decide +kernel⟩
set_option maxRecDepth 100000 in
set_option maxHeartbeats 4000000 in
theorem ct_X12_lefts (l : Launch) (n : Nat) (G : EN) (A : Nat → Nat) (σ : SC) (sz : Nat) {σ0 : SC} (h : f_X12_lefts n σ = some σ0) : CT l yX12_lefts cX12_lefts 7 none rmX12_lefts G sz [.ref (A 0)] (wM G A σ) (QV G (va_A (wM G A σ) sz) (wM G A σ0)) := by
  unfold f_X12_lefts at h
  refine CV.intro (lv := [(0, .ref (A 0))]) (by decide) (Nat.le_of_ble_eq_true rfl) rfl ?_
  intro p e s m args below meth c Q B S hret H locs ls hW hl
  have hx := S.1
  have hb := S.2.1
  refine lv_iconst (v := 0) hx hb dX12_lefts_0 (by decide) ?_
  refine lv_istore_n (lv' := [(1, .int 0), (0, .ref (A 0))]) hx hb dX12_lefts_1 rfl hl (by decide) rfl (fun ls hl => ?_)
  have hL2 : ∀  (K : SC → Option SC), (∀ (σ : SC) (H : Heap) (locs : List Loc) (ls : Array Slot), WS G B s (wM G A σ) H locs → lv_has ls 7 [(0, .ref (A 0))] → K σ = some σ0 → W p l e rmX12_lefts s m args below meth c H locs 0 0 Q (F0 m 48 ls [])) → ∀ (k : Nat) (σ : SC) (y1 : Int32)  (H : Heap) (locs : List Loc) (ls : Array Slot), WS G B s (wM G A σ) H locs → lv_has ls 7 [(0, .ref (A 0)), (1, .int y1)] → LX12_lefts_2 K k σ y1 = some σ0 → W p l e rmX12_lefts s m args below meth c H locs 0 0 Q (F0 m 2 ls []) := by
    intro  K hK k
    induction k with
    | zero => intro σ y1 H locs ls hW hl h; rw [LX12_lefts_2] at h; cases h
    | succ k ih =>
      intro σ y1 H locs ls hW hl h
      rw [LX12_lefts_2] at h
      refine lv_iload_n hx hb dX12_lefts_2 rfl (lv_at hl 1 rfl) ?_
      refine lv_aload_n hx hb dX12_lefts_3 rfl (lv_at hl 0 rfl) ?_
      refine gM_stateMany S hW lk_X12_226 dX12_lefts_4 ?_
      refine bc_ge (tgt := 48) hx hb h dX12_lefts_7 (by decide) (fun _ h => ?_) (fun _ h => ?_)
      · exact hK σ _ _ _ hW (lv_sub hl [0] rfl) h
      · refine lv_aload_n hx hb dX12_lefts_10 rfl (lv_at hl 0 rfl) ?_
        refine gM_left S hW lk_X12_51 dX12_lefts_11 ?_
        refine lv_iload_n hx hb dX12_lefts_14 rfl (lv_at hl 1 rfl) ?_
        refine lv_aload_n hx hb dX12_lefts_15 rfl (lv_at hl 0 rfl) ?_
        refine gM_states S hW lk_X12_45 dX12_lefts_16 ?_
        refine lv_iload_n hx hb dX12_lefts_19 rfl (lv_at hl 1 rfl) ?_
        refine aM_11 S hW h dX12_lefts_20 (fun v1 _ h => ?_)
        refine lv_aload_n hx hb dX12_lefts_21 rfl (lv_at hl 0 rfl) ?_
        refine gM_s S hW lk_X12_7 dX12_lefts_22 ?_
        refine lv_sipush (v := 169) hx hb dX12_lefts_25 (by decide) ?_
        refine aM_1 S hW h dX12_lefts_28 (fun v2 _ h => ?_)
        refine back_i (rest := [.int y1, .ref (A 13)]) hW (run_S S hW (ct_X12_has l G A σ _ v1 v2 rfl) ms_X12_has lk_X12_161 rfl rfl hl (Nat.le_of_ble_eq_true rfl) dX12_lefts_29 ⟨Nat.le_of_ble_eq_true rfl, Nat.le_of_ble_eq_true rfl⟩ rfl rfl) (fun H locs hW => ?_)
        refine bz_eq (tgt := 39) hx hb h dX12_lefts_32 (by decide) (fun _ h => ?_) (fun _ h => ?_)
        · refine lv_ldc (v := 100000000) hx hb S.2.2.2.1 (S.2.2.2.2 _ lk_X12_183) dX12_lefts_39 ?_
          refine sM_13 S hW h dX12_lefts_41 (fun σ3 H locs eσ3 _ h hW => ?_)
          have h := lt_at eσ3 h
          refine w_iinc (lv' := [(0, .ref (A 0))]) hx hb dX12_lefts_42 hl (k := 1) rfl (by decide) (by decide) rfl h (fun v4 ls hl h => ?_)
          refine lv_goto (tgt := 2) hx hb dX12_lefts_45 (by decide) ?_
          exact ih σ3 v4 _ _ _ hW (lv_sub hl [1, 0] rfl) h
        · refine lv_iconst (v := 0) hx hb dX12_lefts_35 (by decide) ?_
          refine lv_goto (tgt := 41) hx hb dX12_lefts_36 (by decide) ?_
          refine sM_13 S hW h dX12_lefts_41 (fun σ5 H locs eσ5 _ h hW => ?_)
          have h := lt_at eσ5 h
          refine w_iinc (lv' := [(0, .ref (A 0))]) hx hb dX12_lefts_42 hl (k := 1) rfl (by decide) (by decide) rfl h (fun v6 ls hl h => ?_)
          refine lv_goto (tgt := 2) hx hb dX12_lefts_45 (by decide) ?_
          exact ih σ5 v6 _ _ _ hW (lv_sub hl [1, 0] rfl) h
  refine hL2  _ (fun σ7 H locs ls hW hl h => ?_) n σ 0 _ _ _ hW (lv_sub hl [1, 0] rfl) h
  refine lv_iconst (v := 1) hx hb dX12_lefts_48 (by decide) ?_
  refine lv_istore_n (lv' := [(1, .int 1), (0, .ref (A 0))]) hx hb dX12_lefts_49 rfl hl (by decide) rfl (fun ls hl => ?_)
  have hL50 : ∀  (K : SC → Option SC), (∀ (σ : SC) (H : Heap) (locs : List Loc) (ls : Array Slot), WS G B s (wM G A σ) H locs → lv_has ls 7 [] → K σ = some σ0 → W p l e rmX12_lefts s m args below meth c H locs 0 0 Q (F0 m 189 ls [])) → ∀ (k : Nat) (σ : SC) (y1 : Int32)  (H : Heap) (locs : List Loc) (ls : Array Slot), WS G B s (wM G A σ) H locs → lv_has ls 7 [(0, .ref (A 0)), (1, .int y1)] → LX12_lefts_50 n K k σ y1 = some σ0 → W p l e rmX12_lefts s m args below meth c H locs 0 0 Q (F0 m 50 ls []) := by
    intro  K hK k
    induction k with
    | zero => intro σ y1 H locs ls hW hl h; rw [LX12_lefts_50] at h; cases h
    | succ k ih =>
      intro σ y1 H locs ls hW hl h
      rw [LX12_lefts_50] at h
      refine lv_iload_n hx hb dX12_lefts_50 rfl (lv_at hl 1 rfl) ?_
      refine bz_eq (tgt := 189) hx hb h dX12_lefts_51 (by decide) (fun _ h => ?_) (fun _ h => ?_)
      · exact hK σ _ _ _ hW (lv_sub hl [] rfl) h
      · refine lv_iconst (v := 0) hx hb dX12_lefts_54 (by decide) ?_
        refine lv_istore_n (lv' := [(1, .int 0), (0, .ref (A 0))]) hx hb dX12_lefts_55 rfl hl (by decide) rfl (fun ls hl => ?_)
        refine lv_aload_n hx hb dX12_lefts_56 rfl (lv_at hl 1 rfl) ?_
        refine gM_stateMany S hW lk_X12_226 dX12_lefts_57 ?_
        refine lv_iconst (v := 1) hx hb dX12_lefts_60 (by decide) ?_
        refine lv_isub hx hb dX12_lefts_61 ?_
        refine nm_i h (fun v8 h => ?_)
        refine lv_istore_n (lv' := [(2, .int v8), (1, .int 0), (0, .ref (A 0))]) hx hb dX12_lefts_62 rfl hl (by decide) rfl (fun ls hl => ?_)
        have hL63 : ∀  (K : SC → Int32 → Option SC), (∀ (σ : SC) (z1 : Int32) (H : Heap) (locs : List Loc) (ls : Array Slot), WS G B s (wM G A σ) H locs → lv_has ls 7 [(0, .ref (A 0)), (1, .int z1)] → K σ z1 = some σ0 → W p l e rmX12_lefts s m args below meth c H locs 0 0 Q (F0 m 50 ls [])) → ∀ (k : Nat) (σ : SC) (y1 : Int32) (y2 : Int32)  (H : Heap) (locs : List Loc) (ls : Array Slot), WS G B s (wM G A σ) H locs → lv_has ls 7 [(0, .ref (A 0)), (1, .int y1), (2, .int y2)] → LX12_lefts_63 n K k σ y1 y2 = some σ0 → W p l e rmX12_lefts s m args below meth c H locs 0 0 Q (F0 m 63 ls []) := by
          intro  K hK k
          induction k with
          | zero => intro σ y1 y2 H locs ls hW hl h; rw [LX12_lefts_63] at h; cases h
          | succ k ih =>
            intro σ y1 y2 H locs ls hW hl h
            rw [LX12_lefts_63] at h
            refine lv_iload_n hx hb dX12_lefts_63 rfl (lv_at hl 2 rfl) ?_
            refine bz_lt (tgt := 186) hx hb h dX12_lefts_64 (by decide) (fun _ h => ?_) (fun _ h => ?_)
            · refine lv_goto (tgt := 50) hx hb dX12_lefts_186 (by decide) ?_
              exact hK σ y1 _ _ _ hW (lv_sub hl [0, 1] rfl) h
            · refine lv_iconst (v := 0) hx hb dX12_lefts_67 (by decide) ?_
              refine lv_istore_n (lv' := [(3, .int 0), (0, .ref (A 0)), (1, .int y1), (2, .int y2)]) hx hb dX12_lefts_68 rfl hl (by decide) rfl (fun ls hl => ?_)
              have hL69 : ∀ (y2 : Int32) (K : SC → Int32 → Option SC), (∀ (σ : SC) (z1 : Int32) (H : Heap) (locs : List Loc) (ls : Array Slot), WS G B s (wM G A σ) H locs → lv_has ls 7 [(0, .ref (A 0)), (1, .int z1), (2, .int y2)] → K σ z1 = some σ0 → W p l e rmX12_lefts s m args below meth c H locs 0 0 Q (F0 m 180 ls [])) → ∀ (k : Nat) (σ : SC) (y1 : Int32) (y3 : Int32)  (H : Heap) (locs : List Loc) (ls : Array Slot), WS G B s (wM G A σ) H locs → lv_has ls 7 [(0, .ref (A 0)), (1, .int y1), (2, .int y2), (3, .int y3)] → LX12_lefts_69 y2 K k σ y1 y3 = some σ0 → W p l e rmX12_lefts s m args below meth c H locs 0 0 Q (F0 m 69 ls []) := by
                intro y2 K hK k
                induction k with
                | zero => intro σ y1 y3 H locs ls hW hl h; rw [LX12_lefts_69] at h; cases h
                | succ k ih =>
                  intro σ y1 y3 H locs ls hW hl h
                  rw [LX12_lefts_69] at h
                  refine lv_iload_n hx hb dX12_lefts_69 rfl (lv_at hl 3 rfl) ?_
                  refine lv_aload_n hx hb dX12_lefts_70 rfl (lv_at hl 0 rfl) ?_
                  refine gM_s S hW lk_X12_7 dX12_lefts_71 ?_
                  refine lv_sipush (v := 172) hx hb dX12_lefts_74 (by decide) ?_
                  refine aM_1 S hW h dX12_lefts_77 (fun v9 _ h => ?_)
                  refine bc_ge (tgt := 180) hx hb h dX12_lefts_78 (by decide) (fun _ h => ?_) (fun _ h => ?_)
                  · exact hK σ y1 _ _ _ hW (lv_sub hl [0, 1, 2] rfl) h
                  · refine lv_aload_n hx hb dX12_lefts_81 rfl (lv_at hl 0 rfl) ?_
                    refine gM_nexts S hW lk_X12_54 dX12_lefts_82 ?_
                    refine lv_bipush (v := 24) hx hb dX12_lefts_85 (by decide) ?_
                    refine lv_iload_n hx hb dX12_lefts_87 rfl (lv_at hl 2 rfl) ?_
                    refine lv_imul hx hb dX12_lefts_88 ?_
                    refine lv_iload_n hx hb dX12_lefts_89 rfl (lv_at hl 3 rfl) ?_
                    refine lv_iadd hx hb dX12_lefts_90 ?_
                    refine aM_14 S hW h dX12_lefts_91 (fun v10 _ h => ?_)
                    refine lv_istore (lv' := [(4, .int v10), (0, .ref (A 0)), (1, .int y1), (2, .int y2), (3, .int y3)]) hx hb dX12_lefts_92 hl (by decide) rfl (fun ls hl => ?_)
                    refine lv_aload_n hx hb dX12_lefts_94 rfl (lv_at hl 1 rfl) ?_
                    refine gM_left S hW lk_X12_51 dX12_lefts_95 ?_
                    refine lv_iload hx hb dX12_lefts_98 (lv_at hl 0 rfl) ?_
                    refine aM_13 S hW h dX12_lefts_100 (fun v11 _ h => ?_)
                    refine lv_sipush (v := 1000) hx hb dX12_lefts_101 (by decide) ?_
                    refine lv_aload_n hx hb dX12_lefts_104 rfl (lv_at hl 1 rfl) ?_
                    refine gM_s S hW lk_X12_7 dX12_lefts_105 ?_
                    refine lv_bipush (v := 72) hx hb dX12_lefts_108 (by decide) ?_
                    refine lv_iload_n hx hb dX12_lefts_110 rfl (lv_at hl 4 rfl) ?_
                    refine lv_iadd hx hb dX12_lefts_111 ?_
                    refine aM_1 S hW h dX12_lefts_112 (fun v12 _ h => ?_)
                    refine lv_imul hx hb dX12_lefts_113 ?_
                    refine lv_iadd hx hb dX12_lefts_114 ?_
                    refine lv_iconst (v := 1) hx hb dX12_lefts_115 (by decide) ?_
                    refine lv_iadd hx hb dX12_lefts_116 ?_
                    refine nm_i h (fun v13 h => ?_)
                    refine lv_istore (lv' := [(5, .int v13), (4, .int v10), (0, .ref (A 0)), (1, .int y1), (2, .int y2), (3, .int y3)]) hx hb dX12_lefts_117 hl (by decide) rfl (fun ls hl => ?_)
                    refine lv_iload hx hb dX12_lefts_119 (lv_at hl 0 rfl) ?_
                    refine lv_aload_n hx hb dX12_lefts_121 rfl (lv_at hl 2 rfl) ?_
                    refine gM_left S hW lk_X12_51 dX12_lefts_122 ?_
                    refine lv_iload_n hx hb dX12_lefts_125 rfl (lv_at hl 4 rfl) ?_
                    refine aM_13 S hW h dX12_lefts_126 (fun v14 _ h => ?_)
                    obtain ⟨J15, eJ15, h⟩ := jn_o h
                    have hJ15 : ∀ (u16 : Int32)  (H : Heap) (locs : List Loc) (ls : Array Slot), WS G B s (wM G A σ) H locs → lv_has ls 7 [(0, .ref (A 0)), (1, .int y1), (2, .int y2), (3, .int y3), (5, .int v13)] → J15 u16 = some σ0 → W p l e rmX12_lefts s m args below meth c H locs 0 0 Q (F0 m 135 ls [.int u16]) := by
                      subst eJ15
                      intro u16 H locs ls hW hl h
                      refine lv_istore (lv' := [(6, .int u16), (0, .ref (A 0)), (1, .int y1), (2, .int y2), (3, .int y3), (5, .int v13)]) hx hb dX12_lefts_135 hl (by decide) rfl (fun ls hl => ?_)
                      refine lv_aload_n hx hb dX12_lefts_137 rfl (lv_at hl 1 rfl) ?_
                      refine gM_left S hW lk_X12_51 dX12_lefts_138 ?_
                      refine lv_iload_n hx hb dX12_lefts_141 rfl (lv_at hl 3 rfl) ?_
                      refine lv_iload hx hb dX12_lefts_142 (lv_at hl 0 rfl) ?_
                      obtain ⟨J17, eJ17, h⟩ := jn_o h
                      have hJ17 : ∀ (u18 : Int32)  (H : Heap) (locs : List Loc) (ls : Array Slot), WS G B s (wM G A σ) H locs → lv_has ls 7 [(0, .ref (A 0)), (1, .int y1), (2, .int y2), (3, .int y3), (6, .int u16)] → J17 u18 = some σ0 → W p l e rmX12_lefts s m args below meth c H locs 0 0 Q (F0 m 158 ls [.int u18, .int y2, .ref (A 13)]) := by
                        subst eJ17
                        intro u18 H locs ls hW hl h
                        refine sM_13 S hW h dX12_lefts_158 (fun σ19 H locs eσ19 _ h hW => ?_)
                        have h := lt_at eσ19 h
                        refine lv_iload_n hx hb dX12_lefts_159 rfl (lv_at hl 1 rfl) ?_
                        refine bz_ne (tgt := 168) hx hb h dX12_lefts_160 (by decide) (fun _ h => ?_) (fun _ h => ?_)
                        · refine lv_iload hx hb dX12_lefts_163 (lv_at hl 4 rfl) ?_
                          refine bz_eq (tgt := 172) hx hb h dX12_lefts_165 (by decide) (fun _ h => ?_) (fun _ h => ?_)
                          · refine lv_iconst (v := 0) hx hb dX12_lefts_172 (by decide) ?_
                            refine lv_istore_n (lv' := [(1, .int 0), (0, .ref (A 0)), (2, .int y2), (3, .int y3), (6, .int u16)]) hx hb dX12_lefts_173 rfl hl (by decide) rfl (fun ls hl => ?_)
                            refine w_iinc (lv' := [(1, .int 0), (0, .ref (A 0)), (2, .int y2), (6, .int u16)]) hx hb dX12_lefts_174 hl (k := 3) rfl (by decide) (by decide) rfl h (fun v21 ls hl h => ?_)
                            refine lv_goto (tgt := 69) hx hb dX12_lefts_177 (by decide) ?_
                            exact ih σ19 0 v21 _ _ _ hW (lv_sub hl [2, 1, 3, 0] rfl) h
                          · refine lv_iconst (v := 1) hx hb dX12_lefts_168 (by decide) ?_
                            refine lv_goto (tgt := 173) hx hb dX12_lefts_169 (by decide) ?_
                            refine lv_istore_n (lv' := [(1, .int 1), (0, .ref (A 0)), (2, .int y2), (3, .int y3), (6, .int u16)]) hx hb dX12_lefts_173 rfl hl (by decide) rfl (fun ls hl => ?_)
                            refine w_iinc (lv' := [(1, .int 1), (0, .ref (A 0)), (2, .int y2), (6, .int u16)]) hx hb dX12_lefts_174 hl (k := 3) rfl (by decide) (by decide) rfl h (fun v22 ls hl h => ?_)
                            refine lv_goto (tgt := 69) hx hb dX12_lefts_177 (by decide) ?_
                            exact ih σ19 1 v22 _ _ _ hW (lv_sub hl [2, 1, 3, 0] rfl) h
                        · refine lv_iconst (v := 1) hx hb dX12_lefts_168 (by decide) ?_
                          refine lv_goto (tgt := 173) hx hb dX12_lefts_169 (by decide) ?_
                          refine lv_istore_n (lv' := [(1, .int 1), (0, .ref (A 0)), (2, .int y2), (3, .int y3), (6, .int u16)]) hx hb dX12_lefts_173 rfl hl (by decide) rfl (fun ls hl => ?_)
                          refine w_iinc (lv' := [(1, .int 1), (0, .ref (A 0)), (2, .int y2), (6, .int u16)]) hx hb dX12_lefts_174 hl (k := 3) rfl (by decide) (by decide) rfl h (fun v20 ls hl h => ?_)
                          refine lv_goto (tgt := 69) hx hb dX12_lefts_177 (by decide) ?_
                          exact ih σ19 1 v20 _ _ _ hW (lv_sub hl [2, 1, 3, 0] rfl) h
                      clear eJ17
                      refine bz_eq (tgt := 152) hx hb h dX12_lefts_144 (by decide) (fun _ h => ?_) (fun _ h => ?_)
                      · refine lv_aload_n hx hb dX12_lefts_152 rfl (lv_at hl 1 rfl) ?_
                        refine gM_left S hW lk_X12_51 dX12_lefts_153 ?_
                        refine lv_iload_n hx hb dX12_lefts_156 rfl (lv_at hl 3 rfl) ?_
                        refine aM_13 S hW h dX12_lefts_157 (fun v23 _ h => ?_)
                        exact hJ17 v23 _ _ _ hW (lv_sub hl [1, 2, 3, 4, 0] rfl) h
                      · refine lv_iload hx hb dX12_lefts_147 (lv_at hl 5 rfl) ?_
                        refine lv_goto (tgt := 158) hx hb dX12_lefts_149 (by decide) ?_
                        exact hJ17 v13 _ _ _ hW (lv_sub hl [1, 2, 3, 4, 0] rfl) h
                    clear eJ15
                    refine bc_ge (tgt := 134) hx hb h dX12_lefts_127 (by decide) (fun _ h => ?_) (fun _ h => ?_)
                    · refine lv_iconst (v := 0) hx hb dX12_lefts_134 (by decide) ?_
                      exact hJ15 0 _ _ _ hW (lv_sub hl [2, 3, 4, 5, 0] rfl) h
                    · refine lv_iconst (v := 1) hx hb dX12_lefts_130 (by decide) ?_
                      refine lv_goto (tgt := 135) hx hb dX12_lefts_131 (by decide) ?_
                      exact hJ15 1 _ _ _ hW (lv_sub hl [2, 3, 4, 5, 0] rfl) h
              refine hL69 y2 _ (fun σ24 w25 H locs ls hW hl h => ?_) n σ y1 0 _ _ _ hW (lv_sub hl [1, 2, 3, 0] rfl) h
              refine w_iinc (lv' := [(0, .ref (A 0)), (1, .int w25)]) hx hb dX12_lefts_180 hl (k := 2) rfl (by decide) (by decide) rfl h (fun v26 ls hl h => ?_)
              refine lv_goto (tgt := 63) hx hb dX12_lefts_183 (by decide) ?_
              exact ih σ24 w25 v26 _ _ _ hW (lv_sub hl [1, 2, 0] rfl) h
        refine hL63  _ (fun σ27 w28 H locs ls hW hl h => ?_) n σ 0 v8 _ _ _ hW (lv_sub hl [2, 1, 0] rfl) h
        exact ih σ27 w28 _ _ _ hW (hl) h
  refine hL50  _ (fun σ29 H locs ls hW hl h => ?_) n σ7 1 _ _ _ hW (lv_sub hl [1, 0] rfl) h
  exact ret_vs (wf := wM G A) hret h hW dX12_lefts_189
def rmX12_reached : Room := { frames := 3, cells := 0, slots := 0, locals := 67 }
def f_X12_reached (n : Nat) (σ : SC) : Option (Int32 × SC) := bd2 (f_X12_goesOn n σ) (fun v3 σ2 => if v3 = 0 then some (0, σ2) else some ((gi σ2 8), σ2))
theorem mi_X12_reached : MI yX12_reached cX12_reached 1 (some .int) 0 := ⟨im_X12_reached, se_X12_reached, in_X12, co_X12_reached, by decide, by decide, by decide +kernel⟩
set_option maxRecDepth 100000 in
set_option maxHeartbeats 4000000 in
theorem ct_X12_reached (l : Launch) (n : Nat) (G : EN) (A : Nat → Nat) (σ : SC) (sz : Nat) {r0 : Int32} {σ0 : SC} (h : f_X12_reached n σ = some (r0, σ0)) : CT l yX12_reached cX12_reached 1 (some .int) rmX12_reached G sz [.ref (A 0)] (wM G A σ) (QI G (va_A (wM G A σ) sz) r0 (wM G A σ0)) := by
  unfold f_X12_reached at h
  refine CI.intro (lv := [(0, .ref (A 0))]) (by decide) (Nat.le_of_ble_eq_true rfl) rfl ?_
  intro p e s m args below meth c Q B S hret H locs ls hW hl
  have hx := S.1
  have hb := S.2.1
  refine lv_aload_n hx hb dX12_reached_0 rfl (lv_at hl 0 rfl) ?_
  obtain ⟨v3, σ2, h1, h⟩ := bd2_o h
  refine back_i (rest := []) hW (run_V S hW (ct_X12_goesOn l n G A σ _ h1) mi_X12_goesOn lk_X12_232 (eM_0 G A σ) rfl rfl rfl hl (Nat.le_of_ble_eq_true rfl) dX12_reached_1 ⟨Nat.le_of_ble_eq_true rfl, Nat.le_of_ble_eq_true rfl⟩ rfl rfl) (fun H locs hW => ?_)
  refine bz_eq (tgt := 14) hx hb h dX12_reached_4 (by decide) (fun _ h => ?_) (fun _ h => ?_)
  · refine lv_iconst (v := 0) hx hb dX12_reached_14 (by decide) ?_
    exact ret_is (wf := wM G A) hret h rfl hW dX12_reached_15
  · refine lv_aload_n hx hb dX12_reached_7 rfl (lv_at hl 0 rfl) ?_
    refine gM_stateMany S hW lk_X12_226 dX12_reached_8 ?_
    refine lv_goto (tgt := 15) hx hb dX12_reached_11 (by decide) ?_
    exact ret_is (wf := wM G A) hret h rfl hW dX12_reached_15
def rmX12_state : Room := { frames := 3, cells := 0, slots := 0, locals := 67 }
def f_X12_state (n : Nat) (σ : SC) (a1 : Int32) : Option (Int32 × SC) := bd2 (f_X12_goesOn n σ) (fun v3 σ2 => if v3 = 0 then bd2 (f_X12_refused σ2 (-5)) (fun v6 σ5 => some (v6, σ5)) else if (f_X12_in a1 0 ((gi σ2 8) - 1)) = 0 then bd2 (f_X12_refused σ2 (-5)) (fun v9 σ8 => some (v9, σ8)) else ld (ga σ2 8) 300 a1 (fun v10 => some (v10, σ2)))
theorem mi_X12_state : MI yX12_state cX12_state 2 (some .int) 1 := ⟨im_X12_state, se_X12_state, in_X12, co_X12_state, by decide, by decide, by decide +kernel⟩
set_option maxRecDepth 100000 in
set_option maxHeartbeats 4000000 in
theorem ct_X12_state (l : Launch) (n : Nat) (G : EN) (A : Nat → Nat) (σ : SC) (sz : Nat) (a1 : Int32) {r0 : Int32} {σ0 : SC} (h : f_X12_state n σ a1 = some (r0, σ0)) : CT l yX12_state cX12_state 2 (some .int) rmX12_state G sz [.ref (A 0), .int a1] (wM G A σ) (QI G (va_A (wM G A σ) sz) r0 (wM G A σ0)) := by
  unfold f_X12_state at h
  refine CI.intro (lv := [(0, .ref (A 0)), (1, .int a1)]) (by decide) (Nat.le_of_ble_eq_true rfl) rfl ?_
  intro p e s m args below meth c Q B S hret H locs ls hW hl
  have hx := S.1
  have hb := S.2.1
  refine lv_aload_n hx hb dX12_state_0 rfl (lv_at hl 0 rfl) ?_
  obtain ⟨v3, σ2, h1, h⟩ := bd2_o h
  refine back_i (rest := []) hW (run_V S hW (ct_X12_goesOn l n G A σ _ h1) mi_X12_goesOn lk_X12_232 (eM_0 G A σ) rfl rfl rfl hl (Nat.le_of_ble_eq_true rfl) dX12_state_1 ⟨Nat.le_of_ble_eq_true rfl, Nat.le_of_ble_eq_true rfl⟩ rfl rfl) (fun H locs hW => ?_)
  refine bz_eq (tgt := 30) hx hb h dX12_state_4 (by decide) (fun _ h => ?_) (fun _ h => ?_)
  · refine lv_aload_n hx hb dX12_state_30 rfl (lv_at hl 0 rfl) ?_
    refine lv_bipush (v := (-5)) hx hb dX12_state_31 (by decide) ?_
    obtain ⟨v6, σ5, h4, h⟩ := bd2_o h
    refine back_i (rest := []) hW (run_V S hW (ct_X12_refused l G A σ2 _ (-5) h4) mi_X12_refused lk_X12_75 (eM_0 G A σ2) rfl rfl rfl hl (Nat.le_of_ble_eq_true rfl) dX12_state_33 ⟨Nat.le_of_ble_eq_true rfl, Nat.le_of_ble_eq_true rfl⟩ rfl rfl) (fun H locs hW => ?_)
    exact ret_is (wf := wM G A) hret h rfl hW dX12_state_36
  · refine lv_iload_n hx hb dX12_state_7 rfl (lv_at hl 1 rfl) ?_
    refine lv_iconst (v := 0) hx hb dX12_state_8 (by decide) ?_
    refine lv_aload_n hx hb dX12_state_9 rfl (lv_at hl 0 rfl) ?_
    refine gM_stateMany S hW lk_X12_226 dX12_state_10 ?_
    refine lv_iconst (v := 1) hx hb dX12_state_13 (by decide) ?_
    refine lv_isub hx hb dX12_state_14 ?_
    refine back_i (rest := []) hW (run_S S hW (ct_X12_in l G A σ2 _ a1 0 ((gi σ2 8) - 1) rfl) ms_X12_in lk_X12_67 rfl rfl hl (Nat.le_of_ble_eq_true rfl) dX12_state_15 ⟨Nat.le_of_ble_eq_true rfl, Nat.le_of_ble_eq_true rfl⟩ rfl rfl) (fun H locs hW => ?_)
    refine bz_eq (tgt := 30) hx hb h dX12_state_18 (by decide) (fun _ h => ?_) (fun _ h => ?_)
    · refine lv_aload_n hx hb dX12_state_30 rfl (lv_at hl 0 rfl) ?_
      refine lv_bipush (v := (-5)) hx hb dX12_state_31 (by decide) ?_
      obtain ⟨v9, σ8, h7, h⟩ := bd2_o h
      refine back_i (rest := []) hW (run_V S hW (ct_X12_refused l G A σ2 _ (-5) h7) mi_X12_refused lk_X12_75 (eM_0 G A σ2) rfl rfl rfl hl (Nat.le_of_ble_eq_true rfl) dX12_state_33 ⟨Nat.le_of_ble_eq_true rfl, Nat.le_of_ble_eq_true rfl⟩ rfl rfl) (fun H locs hW => ?_)
      exact ret_is (wf := wM G A) hret h rfl hW dX12_state_36
    · refine lv_aload_n hx hb dX12_state_21 rfl (lv_at hl 0 rfl) ?_
      refine gM_states S hW lk_X12_45 dX12_state_22 ?_
      refine lv_iload_n hx hb dX12_state_25 rfl (lv_at hl 1 rfl) ?_
      refine aM_11 S hW h dX12_state_26 (fun v10 _ h => ?_)
      refine lv_goto (tgt := 36) hx hb dX12_state_27 (by decide) ?_
      exact ret_is (wf := wM G A) hret h rfl hW dX12_state_36
def rmX12_far : Room := { frames := 3, cells := 0, slots := 0, locals := 67 }
def f_X12_far (n : Nat) (σ : SC) (a1 : Int32) : Option (Int32 × SC) := bd2 (f_X12_goesOn n σ) (fun v3 σ2 => if v3 = 0 then bd2 (f_X12_refused σ2 (-5)) (fun v6 σ5 => some (v6, σ5)) else if (f_X12_in a1 0 ((gi σ2 8) - 1)) = 0 then bd2 (f_X12_refused σ2 (-5)) (fun v12 σ11 => some (v12, σ11)) else bd (f_X12_fars n σ2) (fun σ8 => ld (ga σ8 9) 300 a1 (fun v9 => some (v9, σ8))))
theorem mi_X12_far : MI yX12_far cX12_far 2 (some .int) 1 := ⟨im_X12_far, se_X12_far, in_X12, co_X12_far, by decide, by decide, by decide +kernel⟩
set_option maxRecDepth 100000 in
set_option maxHeartbeats 4000000 in
theorem ct_X12_far (l : Launch) (n : Nat) (G : EN) (A : Nat → Nat) (σ : SC) (sz : Nat) (a1 : Int32) {r0 : Int32} {σ0 : SC} (h : f_X12_far n σ a1 = some (r0, σ0)) : CT l yX12_far cX12_far 2 (some .int) rmX12_far G sz [.ref (A 0), .int a1] (wM G A σ) (QI G (va_A (wM G A σ) sz) r0 (wM G A σ0)) := by
  unfold f_X12_far at h
  refine CI.intro (lv := [(0, .ref (A 0)), (1, .int a1)]) (by decide) (Nat.le_of_ble_eq_true rfl) rfl ?_
  intro p e s m args below meth c Q B S hret H locs ls hW hl
  have hx := S.1
  have hb := S.2.1
  refine lv_aload_n hx hb dX12_far_0 rfl (lv_at hl 0 rfl) ?_
  obtain ⟨v3, σ2, h1, h⟩ := bd2_o h
  refine back_i (rest := []) hW (run_V S hW (ct_X12_goesOn l n G A σ _ h1) mi_X12_goesOn lk_X12_232 (eM_0 G A σ) rfl rfl rfl hl (Nat.le_of_ble_eq_true rfl) dX12_far_1 ⟨Nat.le_of_ble_eq_true rfl, Nat.le_of_ble_eq_true rfl⟩ rfl rfl) (fun H locs hW => ?_)
  refine bz_eq (tgt := 21) hx hb h dX12_far_4 (by decide) (fun _ h => ?_) (fun _ h => ?_)
  · refine lv_aload_n hx hb dX12_far_21 rfl (lv_at hl 0 rfl) ?_
    refine lv_bipush (v := (-5)) hx hb dX12_far_22 (by decide) ?_
    obtain ⟨v6, σ5, h4, h⟩ := bd2_o h
    refine back_i (rest := []) hW (run_V S hW (ct_X12_refused l G A σ2 _ (-5) h4) mi_X12_refused lk_X12_75 (eM_0 G A σ2) rfl rfl rfl hl (Nat.le_of_ble_eq_true rfl) dX12_far_24 ⟨Nat.le_of_ble_eq_true rfl, Nat.le_of_ble_eq_true rfl⟩ rfl rfl) (fun H locs hW => ?_)
    exact ret_is (wf := wM G A) hret h rfl hW dX12_far_27
  · refine lv_iload_n hx hb dX12_far_7 rfl (lv_at hl 1 rfl) ?_
    refine lv_iconst (v := 0) hx hb dX12_far_8 (by decide) ?_
    refine lv_aload_n hx hb dX12_far_9 rfl (lv_at hl 0 rfl) ?_
    refine gM_stateMany S hW lk_X12_226 dX12_far_10 ?_
    refine lv_iconst (v := 1) hx hb dX12_far_13 (by decide) ?_
    refine lv_isub hx hb dX12_far_14 ?_
    refine back_i (rest := []) hW (run_S S hW (ct_X12_in l G A σ2 _ a1 0 ((gi σ2 8) - 1) rfl) ms_X12_in lk_X12_67 rfl rfl hl (Nat.le_of_ble_eq_true rfl) dX12_far_15 ⟨Nat.le_of_ble_eq_true rfl, Nat.le_of_ble_eq_true rfl⟩ rfl rfl) (fun H locs hW => ?_)
    refine bz_ne (tgt := 28) hx hb h dX12_far_18 (by decide) (fun _ h => ?_) (fun _ h => ?_)
    · refine lv_aload_n hx hb dX12_far_21 rfl (lv_at hl 0 rfl) ?_
      refine lv_bipush (v := (-5)) hx hb dX12_far_22 (by decide) ?_
      obtain ⟨v12, σ11, h10, h⟩ := bd2_o h
      refine back_i (rest := []) hW (run_V S hW (ct_X12_refused l G A σ2 _ (-5) h10) mi_X12_refused lk_X12_75 (eM_0 G A σ2) rfl rfl rfl hl (Nat.le_of_ble_eq_true rfl) dX12_far_24 ⟨Nat.le_of_ble_eq_true rfl, Nat.le_of_ble_eq_true rfl⟩ rfl rfl) (fun H locs hW => ?_)
      exact ret_is (wf := wM G A) hret h rfl hW dX12_far_27
    · refine lv_aload_n hx hb dX12_far_28 rfl (lv_at hl 0 rfl) ?_
      obtain ⟨σ8, h7, h⟩ := bd_o h
      refine back_v (rest := []) hW (run_V S hW (ct_X12_fars l n G A σ2 _ h7) mi_X12_fars lk_X12_235 (eM_0 G A σ2) rfl rfl rfl hl (Nat.le_of_ble_eq_true rfl) dX12_far_29 ⟨Nat.le_of_ble_eq_true rfl, Nat.le_of_ble_eq_true rfl⟩ rfl rfl) (fun H locs hW => ?_)
      refine lv_aload_n hx hb dX12_far_32 rfl (lv_at hl 0 rfl) ?_
      refine gM_far S hW lk_X12_48 dX12_far_33 ?_
      refine lv_iload_n hx hb dX12_far_36 rfl (lv_at hl 1 rfl) ?_
      refine aM_12 S hW h dX12_far_37 (fun v9 _ h => ?_)
      exact ret_is (wf := wM G A) hret h rfl hW dX12_far_38
def rmX12_numberOf : Room := { frames := 3, cells := 0, slots := 0, locals := 67 }
def f_X12_numberOf (n : Nat) (σ : SC) (a1 : Int32) : Option (Int32 × SC) := bd2 (f_X12_goesOn n σ) (fun v3 σ2 => if v3 = 0 then bd2 (f_X12_refusedBelow σ2 (-5)) (fun v11 σ10 => some (v11, σ10)) else if (f_X12_isSet a1) = 0 then bd2 (f_X12_refusedBelow σ2 (-6)) (fun v6 σ5 => some (v6, σ5)) else bd (f_X12_placeOf n σ2 a1) (fun v8 => some (v8, σ2)))
theorem mi_X12_numberOf : MI yX12_numberOf cX12_numberOf 2 (some .int) 1 := ⟨im_X12_numberOf, se_X12_numberOf, in_X12, co_X12_numberOf, by decide, by decide, by decide +kernel⟩
set_option maxRecDepth 100000 in
set_option maxHeartbeats 4000000 in
theorem ct_X12_numberOf (l : Launch) (n : Nat) (G : EN) (A : Nat → Nat) (σ : SC) (sz : Nat) (a1 : Int32) {r0 : Int32} {σ0 : SC} (h : f_X12_numberOf n σ a1 = some (r0, σ0)) : CT l yX12_numberOf cX12_numberOf 2 (some .int) rmX12_numberOf G sz [.ref (A 0), .int a1] (wM G A σ) (QI G (va_A (wM G A σ) sz) r0 (wM G A σ0)) := by
  unfold f_X12_numberOf at h
  refine CI.intro (lv := [(0, .ref (A 0)), (1, .int a1)]) (by decide) (Nat.le_of_ble_eq_true rfl) rfl ?_
  intro p e s m args below meth c Q B S hret H locs ls hW hl
  have hx := S.1
  have hb := S.2.1
  refine lv_aload_n hx hb dX12_numberOf_0 rfl (lv_at hl 0 rfl) ?_
  obtain ⟨v3, σ2, h1, h⟩ := bd2_o h
  refine back_i (rest := []) hW (run_V S hW (ct_X12_goesOn l n G A σ _ h1) mi_X12_goesOn lk_X12_232 (eM_0 G A σ) rfl rfl rfl hl (Nat.le_of_ble_eq_true rfl) dX12_numberOf_1 ⟨Nat.le_of_ble_eq_true rfl, Nat.le_of_ble_eq_true rfl⟩ rfl rfl) (fun H locs hW => ?_)
  refine bz_ne (tgt := 14) hx hb h dX12_numberOf_4 (by decide) (fun _ h => ?_) (fun _ h => ?_)
  · refine lv_aload_n hx hb dX12_numberOf_7 rfl (lv_at hl 0 rfl) ?_
    refine lv_bipush (v := (-5)) hx hb dX12_numberOf_8 (by decide) ?_
    obtain ⟨v11, σ10, h9, h⟩ := bd2_o h
    refine back_i (rest := []) hW (run_V S hW (ct_X12_refusedBelow l G A σ2 _ (-5) h9) mi_X12_refusedBelow lk_X12_177 (eM_0 G A σ2) rfl rfl rfl hl (Nat.le_of_ble_eq_true rfl) dX12_numberOf_10 ⟨Nat.le_of_ble_eq_true rfl, Nat.le_of_ble_eq_true rfl⟩ rfl rfl) (fun H locs hW => ?_)
    exact ret_is (wf := wM G A) hret h rfl hW dX12_numberOf_13
  · refine lv_iload_n hx hb dX12_numberOf_14 rfl (lv_at hl 1 rfl) ?_
    refine back_i (rest := []) hW (run_S S hW (ct_X12_isSet l G A σ2 _ a1 rfl) ms_X12_isSet lk_X12_91 rfl rfl hl (Nat.le_of_ble_eq_true rfl) dX12_numberOf_15 ⟨Nat.le_of_ble_eq_true rfl, Nat.le_of_ble_eq_true rfl⟩ rfl rfl) (fun H locs hW => ?_)
    refine bz_eq (tgt := 29) hx hb h dX12_numberOf_18 (by decide) (fun _ h => ?_) (fun _ h => ?_)
    · refine lv_aload_n hx hb dX12_numberOf_29 rfl (lv_at hl 0 rfl) ?_
      refine lv_bipush (v := (-6)) hx hb dX12_numberOf_30 (by decide) ?_
      obtain ⟨v6, σ5, h4, h⟩ := bd2_o h
      refine back_i (rest := []) hW (run_V S hW (ct_X12_refusedBelow l G A σ2 _ (-6) h4) mi_X12_refusedBelow lk_X12_177 (eM_0 G A σ2) rfl rfl rfl hl (Nat.le_of_ble_eq_true rfl) dX12_numberOf_32 ⟨Nat.le_of_ble_eq_true rfl, Nat.le_of_ble_eq_true rfl⟩ rfl rfl) (fun H locs hW => ?_)
      exact ret_is (wf := wM G A) hret h rfl hW dX12_numberOf_35
    · refine lv_aload_n hx hb dX12_numberOf_21 rfl (lv_at hl 0 rfl) ?_
      refine lv_iload_n hx hb dX12_numberOf_22 rfl (lv_at hl 1 rfl) ?_
      obtain ⟨v8, h7, h⟩ := bd_o h
      refine back_i (rest := []) hW (run_V S hW (ct_X12_placeOf l n G A σ2 _ a1 h7) mi_X12_placeOf lk_X12_229 (eM_0 G A σ2) rfl rfl rfl hl (Nat.le_of_ble_eq_true rfl) dX12_numberOf_23 ⟨Nat.le_of_ble_eq_true rfl, Nat.le_of_ble_eq_true rfl⟩ rfl rfl) (fun H locs hW => ?_)
      refine lv_goto (tgt := 35) hx hb dX12_numberOf_26 (by decide) ?_
      exact ret_is (wf := wM G A) hret h rfl hW dX12_numberOf_35
def rmX12_excluded : Room := { frames := 3, cells := 0, slots := 0, locals := 67 }
def LX12_excluded_31 (σ : SC) (y1 : Int32) (K : Int32 → Option (Int32 × SC)) : Nat → Int32 → Int32 → Option (Int32 × SC)
  | 0, _, _ => none
  | k + 1, y2, y3 => if (gi σ 8) ≤ y3 then K y2 else ld (ga σ 8) 300 y3 (fun v4 => if ((v4 >>> (y1 &&& 31)) &&& 1) = 1 then ld (ga σ 8) 300 y3 (fun v7 => lt (y2 ||| v7) (fun v8 => lt (y3 + 1) (fun v9 => LX12_excluded_31 σ y1 K k v8 v9))) else lt (y2 ||| 0) (fun v5 => lt (y3 + 1) (fun v6 => LX12_excluded_31 σ y1 K k v5 v6)))
def f_X12_excluded (n : Nat) (σ : SC) (a1 : Int32) : Option (Int32 × SC) := if (f_X12_isFact a1) = 0 then bd2 (f_X12_refused σ (-1)) (fun v16 σ15 => some (v16, σ15)) else bd2 (f_X12_goesOn n σ) (fun v3 σ2 => if v3 = 0 then bd2 (f_X12_refused σ2 (-5)) (fun v13 σ12 => some (v13, σ12)) else LX12_excluded_31 σ2 a1 (fun w10 => some ((1073741823 &&& (w10 ^^^ (-1))), σ2)) n 0 0)
theorem mi_X12_excluded : MI yX12_excluded cX12_excluded 4 (some .int) 1 := ⟨im_X12_excluded, se_X12_excluded, in_X12, co_X12_excluded, by decide, by decide, by decide +kernel⟩
set_option maxRecDepth 100000 in
set_option maxHeartbeats 4000000 in
theorem ct_X12_excluded (l : Launch) (n : Nat) (G : EN) (A : Nat → Nat) (σ : SC) (sz : Nat) (a1 : Int32) {r0 : Int32} {σ0 : SC} (h : f_X12_excluded n σ a1 = some (r0, σ0)) : CT l yX12_excluded cX12_excluded 4 (some .int) rmX12_excluded G sz [.ref (A 0), .int a1] (wM G A σ) (QI G (va_A (wM G A σ) sz) r0 (wM G A σ0)) := by
  unfold f_X12_excluded at h
  refine CI.intro (lv := [(0, .ref (A 0)), (1, .int a1)]) (by decide) (Nat.le_of_ble_eq_true rfl) rfl ?_
  intro p e s m args below meth c Q B S hret H locs ls hW hl
  have hx := S.1
  have hb := S.2.1
  refine lv_iload_n hx hb dX12_excluded_0 rfl (lv_at hl 1 rfl) ?_
  refine back_i (rest := []) hW (run_S S hW (ct_X12_isFact l G A σ _ a1 rfl) ms_X12_isFact lk_X12_174 rfl rfl hl (Nat.le_of_ble_eq_true rfl) dX12_excluded_1 ⟨Nat.le_of_ble_eq_true rfl, Nat.le_of_ble_eq_true rfl⟩ rfl rfl) (fun H locs hW => ?_)
  refine bz_ne (tgt := 13) hx hb h dX12_excluded_4 (by decide) (fun _ h => ?_) (fun _ h => ?_)
  · refine lv_aload_n hx hb dX12_excluded_7 rfl (lv_at hl 0 rfl) ?_
    refine lv_iconst (v := (-1)) hx hb dX12_excluded_8 (by decide) ?_
    obtain ⟨v16, σ15, h14, h⟩ := bd2_o h
    refine back_i (rest := []) hW (run_V S hW (ct_X12_refused l G A σ _ (-1) h14) mi_X12_refused lk_X12_75 (eM_0 G A σ) rfl rfl rfl hl (Nat.le_of_ble_eq_true rfl) dX12_excluded_9 ⟨Nat.le_of_ble_eq_true rfl, Nat.le_of_ble_eq_true rfl⟩ rfl rfl) (fun H locs hW => ?_)
    exact ret_is (wf := wM G A) hret h rfl hW dX12_excluded_12
  · refine lv_aload_n hx hb dX12_excluded_13 rfl (lv_at hl 0 rfl) ?_
    obtain ⟨v3, σ2, h1, h⟩ := bd2_o h
    refine back_i (rest := []) hW (run_V S hW (ct_X12_goesOn l n G A σ _ h1) mi_X12_goesOn lk_X12_232 (eM_0 G A σ) rfl rfl rfl hl (Nat.le_of_ble_eq_true rfl) dX12_excluded_14 ⟨Nat.le_of_ble_eq_true rfl, Nat.le_of_ble_eq_true rfl⟩ rfl rfl) (fun H locs hW => ?_)
    refine bz_ne (tgt := 27) hx hb h dX12_excluded_17 (by decide) (fun _ h => ?_) (fun _ h => ?_)
    · refine lv_aload_n hx hb dX12_excluded_20 rfl (lv_at hl 0 rfl) ?_
      refine lv_bipush (v := (-5)) hx hb dX12_excluded_21 (by decide) ?_
      obtain ⟨v13, σ12, h11, h⟩ := bd2_o h
      refine back_i (rest := []) hW (run_V S hW (ct_X12_refused l G A σ2 _ (-5) h11) mi_X12_refused lk_X12_75 (eM_0 G A σ2) rfl rfl rfl hl (Nat.le_of_ble_eq_true rfl) dX12_excluded_23 ⟨Nat.le_of_ble_eq_true rfl, Nat.le_of_ble_eq_true rfl⟩ rfl rfl) (fun H locs hW => ?_)
      exact ret_is (wf := wM G A) hret h rfl hW dX12_excluded_26
    · refine lv_iconst (v := 0) hx hb dX12_excluded_27 (by decide) ?_
      refine lv_istore_n (lv' := [(2, .int 0), (0, .ref (A 0)), (1, .int a1)]) hx hb dX12_excluded_28 rfl hl (by decide) rfl (fun ls hl => ?_)
      refine lv_iconst (v := 0) hx hb dX12_excluded_29 (by decide) ?_
      refine lv_istore_n (lv' := [(3, .int 0), (2, .int 0), (0, .ref (A 0)), (1, .int a1)]) hx hb dX12_excluded_30 rfl hl (by decide) rfl (fun ls hl => ?_)
      have hL31 : ∀ (y1 : Int32) (σ : SC) (K : Int32 → Option (Int32 × SC)), (∀ (z2 : Int32) (H : Heap) (locs : List Loc) (ls : Array Slot), WS G B s (wM G A σ) H locs → lv_has ls 4 [(2, .int z2)] → K z2 = some (r0, σ0) → W p l e rmX12_excluded s m args below meth c H locs 0 0 Q (F0 m 72 ls [])) → ∀ (k : Nat)  (y2 : Int32) (y3 : Int32)  (H : Heap) (locs : List Loc) (ls : Array Slot), WS G B s (wM G A σ) H locs → lv_has ls 4 [(0, .ref (A 0)), (1, .int y1), (2, .int y2), (3, .int y3)] → LX12_excluded_31 σ y1 K k y2 y3 = some (r0, σ0) → W p l e rmX12_excluded s m args below meth c H locs 0 0 Q (F0 m 31 ls []) := by
        intro y1 σ K hK k
        induction k with
        | zero => intro y2 y3 H locs ls hW hl h; rw [LX12_excluded_31] at h; cases h
        | succ k ih =>
          intro y2 y3 H locs ls hW hl h
          rw [LX12_excluded_31] at h
          refine lv_iload_n hx hb dX12_excluded_31 rfl (lv_at hl 3 rfl) ?_
          refine lv_aload_n hx hb dX12_excluded_32 rfl (lv_at hl 0 rfl) ?_
          refine gM_stateMany S hW lk_X12_226 dX12_excluded_33 ?_
          refine bc_ge (tgt := 72) hx hb h dX12_excluded_36 (by decide) (fun _ h => ?_) (fun _ h => ?_)
          · exact hK y2 _ _ _ hW (lv_sub hl [2] rfl) h
          · refine lv_iload_n hx hb dX12_excluded_39 rfl (lv_at hl 2 rfl) ?_
            refine lv_aload_n hx hb dX12_excluded_40 rfl (lv_at hl 0 rfl) ?_
            refine gM_states S hW lk_X12_45 dX12_excluded_41 ?_
            refine lv_iload_n hx hb dX12_excluded_44 rfl (lv_at hl 3 rfl) ?_
            refine aM_11 S hW h dX12_excluded_45 (fun v4 _ h => ?_)
            refine lv_iload_n hx hb dX12_excluded_46 rfl (lv_at hl 1 rfl) ?_
            refine lv_ishr hx hb dX12_excluded_47 ?_
            refine lv_iconst (v := 1) hx hb dX12_excluded_48 (by decide) ?_
            refine lv_iand hx hb dX12_excluded_49 ?_
            refine lv_iconst (v := 1) hx hb dX12_excluded_50 (by decide) ?_
            refine bc_ne (tgt := 63) hx hb h dX12_excluded_51 (by decide) (fun _ h => ?_) (fun _ h => ?_)
            · refine lv_aload_n hx hb dX12_excluded_54 rfl (lv_at hl 0 rfl) ?_
              refine gM_states S hW lk_X12_45 dX12_excluded_55 ?_
              refine lv_iload_n hx hb dX12_excluded_58 rfl (lv_at hl 3 rfl) ?_
              refine aM_11 S hW h dX12_excluded_59 (fun v7 _ h => ?_)
              refine lv_goto (tgt := 64) hx hb dX12_excluded_60 (by decide) ?_
              refine lv_ior hx hb dX12_excluded_64 ?_
              refine nm_i h (fun v8 h => ?_)
              refine lv_istore_n (lv' := [(2, .int v8), (0, .ref (A 0)), (1, .int y1), (3, .int y3)]) hx hb dX12_excluded_65 rfl hl (by decide) rfl (fun ls hl => ?_)
              refine w_iinc (lv' := [(2, .int v8), (0, .ref (A 0)), (1, .int y1)]) hx hb dX12_excluded_66 hl (k := 3) rfl (by decide) (by decide) rfl h (fun v9 ls hl h => ?_)
              refine lv_goto (tgt := 31) hx hb dX12_excluded_69 (by decide) ?_
              exact ih v8 v9 _ _ _ hW (lv_sub hl [2, 3, 1, 0] rfl) h
            · refine lv_iconst (v := 0) hx hb dX12_excluded_63 (by decide) ?_
              refine lv_ior hx hb dX12_excluded_64 ?_
              refine nm_i h (fun v5 h => ?_)
              refine lv_istore_n (lv' := [(2, .int v5), (0, .ref (A 0)), (1, .int y1), (3, .int y3)]) hx hb dX12_excluded_65 rfl hl (by decide) rfl (fun ls hl => ?_)
              refine w_iinc (lv' := [(2, .int v5), (0, .ref (A 0)), (1, .int y1)]) hx hb dX12_excluded_66 hl (k := 3) rfl (by decide) (by decide) rfl h (fun v6 ls hl h => ?_)
              refine lv_goto (tgt := 31) hx hb dX12_excluded_69 (by decide) ?_
              exact ih v5 v6 _ _ _ hW (lv_sub hl [2, 3, 1, 0] rfl) h
      refine hL31 a1 σ2 _ (fun w10 H locs ls hW hl h => ?_) n 0 0 _ _ _ hW (lv_sub hl [2, 3, 1, 0] rfl) h
      refine lv_ldc (v := 1073741823) hx hb S.2.2.2.1 (S.2.2.2.2 _ lk_X12_66) dX12_excluded_72 ?_
      refine lv_iload_n hx hb dX12_excluded_74 rfl (lv_at hl 0 rfl) ?_
      refine lv_iconst (v := (-1)) hx hb dX12_excluded_75 (by decide) ?_
      refine lv_ixor hx hb dX12_excluded_76 ?_
      refine lv_iand hx hb dX12_excluded_77 ?_
      exact ret_is (wf := wM G A) hret h rfl hW dX12_excluded_78
def rmX12_isPlanned : Room := { frames := 2, cells := 0, slots := 0, locals := 47 }
def LX12_isPlanned_35 (σ : SC) (y1 : Int32) (K : Int32 → Option (Int32 × SC)) : Nat → Int32 → Option (Int32 × SC)
  | 0, _ => none
  | k + 1, y2 => ld (ga σ 11) 7200 ((24 * y1) + y2) (fun v6 => ld (ga σ 10) 300 v6 (fun v7 => ld (ga σ 0) 173 (72 + y2) (fun v8 => ld (ga σ 10) 300 y1 (fun v9 => if ((v7 + (1000 * v8)) + 1) = v9 then K y2 else lt (y2 + 1) (fun v10 => LX12_isPlanned_35 σ y1 K k v10)))))
def LX12_isPlanned_24 (n : Nat) (K : SC → Option (Int32 × SC)) : Nat → SC → Int32 → Option (Int32 × SC)
  | 0, _, _ => none
  | k + 1, σ, y1 => ld (ga σ 10) 300 y1 (fun v5 => if v5 ≤ 0 then K σ else LX12_isPlanned_35 σ y1 (fun w11 => ck 300 (gi σ 9) (lt (sa σ 12 (upd (ga σ 12) (gi σ 9).toNatClampNeg w11)) (fun σ12 => lt (si σ12 9 ((gi σ12 9) + 1)) (fun σ13 => ld (ga σ13 11) 7200 ((24 * y1) + w11) (fun v14 => LX12_isPlanned_24 n K k σ13 v14))))) n 0)
def f_X12_isPlanned (n : Nat) (σ : SC) : Option (Int32 × SC) := bd (f_X12_lefts n σ) (fun σ2 => lt (si σ2 9 0) (fun σ3 => ld (ga σ3 10) 300 0 (fun v4 => if v4 < 100000000 then LX12_isPlanned_24 n (fun σ15 => some (1, σ15)) n σ3 0 else some (0, σ3))))
theorem mi_X12_isPlanned : MI yX12_isPlanned cX12_isPlanned 3 (some .boolean) 0 := ⟨im_X12_isPlanned, se_X12_isPlanned, in_X12, co_X12_isPlanned, by decide, by decide, by decide +kernel⟩
set_option maxRecDepth 100000 in
set_option maxHeartbeats 4000000 in
theorem ct_X12_isPlanned (l : Launch) (n : Nat) (G : EN) (A : Nat → Nat) (σ : SC) (sz : Nat) {r0 : Int32} {σ0 : SC} (h : f_X12_isPlanned n σ = some (r0, σ0)) : CT l yX12_isPlanned cX12_isPlanned 3 (some .boolean) rmX12_isPlanned G sz [.ref (A 0)] (wM G A σ) (QI G (va_A (wM G A σ) sz) r0 (wM G A σ0)) := by
  unfold f_X12_isPlanned at h
  refine CI.intro (lv := [(0, .ref (A 0))]) (by decide) (Nat.le_of_ble_eq_true rfl) rfl ?_
  intro p e s m args below meth c Q B S hret H locs ls hW hl
  have hx := S.1
  have hb := S.2.1
  refine lv_aload_n hx hb dX12_isPlanned_0 rfl (lv_at hl 0 rfl) ?_
  obtain ⟨σ2, h1, h⟩ := bd_o h
  refine back_v (rest := []) hW (run_V S hW (ct_X12_lefts l n G A σ _ h1) mi_X12_lefts lk_X12_238 (eM_0 G A σ) rfl rfl rfl hl (Nat.le_of_ble_eq_true rfl) dX12_isPlanned_1 ⟨Nat.le_of_ble_eq_true rfl, Nat.le_of_ble_eq_true rfl⟩ rfl rfl) (fun H locs hW => ?_)
  refine lv_aload_n hx hb dX12_isPlanned_4 rfl (lv_at hl 0 rfl) ?_
  refine lv_iconst (v := 0) hx hb dX12_isPlanned_5 (by decide) ?_
  refine pM_planMany S hW lk_X12_241 dX12_isPlanned_6 (fun σ3 H locs eσ3 hW => ?_)
  have h := lt_at eσ3 h
  refine lv_aload_n hx hb dX12_isPlanned_9 rfl (lv_at hl 0 rfl) ?_
  refine gM_left S hW lk_X12_51 dX12_isPlanned_10 ?_
  refine lv_iconst (v := 0) hx hb dX12_isPlanned_13 (by decide) ?_
  refine aM_13 S hW h dX12_isPlanned_14 (fun v4 _ h => ?_)
  refine lv_ldc (v := 100000000) hx hb S.2.2.2.1 (S.2.2.2.2 _ lk_X12_183) dX12_isPlanned_15 ?_
  refine bc_lt (tgt := 22) hx hb h dX12_isPlanned_17 (by decide) (fun _ h => ?_) (fun _ h => ?_)
  · refine lv_iconst (v := 0) hx hb dX12_isPlanned_22 (by decide) ?_
    refine lv_istore_n (lv' := [(1, .int 0), (0, .ref (A 0))]) hx hb dX12_isPlanned_23 rfl hl (by decide) rfl (fun ls hl => ?_)
    have hL24 : ∀  (K : SC → Option (Int32 × SC)), (∀ (σ : SC) (H : Heap) (locs : List Loc) (ls : Array Slot), WS G B s (wM G A σ) H locs → lv_has ls 3 [] → K σ = some (r0, σ0) → W p l e rmX12_isPlanned s m args below meth c H locs 0 0 Q (F0 m 117 ls [])) → ∀ (k : Nat) (σ : SC) (y1 : Int32)  (H : Heap) (locs : List Loc) (ls : Array Slot), WS G B s (wM G A σ) H locs → lv_has ls 3 [(0, .ref (A 0)), (1, .int y1)] → LX12_isPlanned_24 n K k σ y1 = some (r0, σ0) → W p l e rmX12_isPlanned s m args below meth c H locs 0 0 Q (F0 m 24 ls []) := by
      intro  K hK k
      induction k with
      | zero => intro σ y1 H locs ls hW hl h; rw [LX12_isPlanned_24] at h; cases h
      | succ k ih =>
        intro σ y1 H locs ls hW hl h
        rw [LX12_isPlanned_24] at h
        refine lv_aload_n hx hb dX12_isPlanned_24 rfl (lv_at hl 0 rfl) ?_
        refine gM_left S hW lk_X12_51 dX12_isPlanned_25 ?_
        refine lv_iload_n hx hb dX12_isPlanned_28 rfl (lv_at hl 1 rfl) ?_
        refine aM_13 S hW h dX12_isPlanned_29 (fun v5 _ h => ?_)
        refine bz_le (tgt := 117) hx hb h dX12_isPlanned_30 (by decide) (fun _ h => ?_) (fun _ h => ?_)
        · exact hK σ _ _ _ hW (lv_sub hl [] rfl) h
        · refine lv_iconst (v := 0) hx hb dX12_isPlanned_33 (by decide) ?_
          refine lv_istore_n (lv' := [(2, .int 0), (0, .ref (A 0)), (1, .int y1)]) hx hb dX12_isPlanned_34 rfl hl (by decide) rfl (fun ls hl => ?_)
          have hL35 : ∀ (y1 : Int32) (σ : SC) (K : Int32 → Option (Int32 × SC)), (∀ (z2 : Int32) (H : Heap) (locs : List Loc) (ls : Array Slot), WS G B s (wM G A σ) H locs → lv_has ls 3 [(0, .ref (A 0)), (1, .int y1), (2, .int z2)] → K z2 = some (r0, σ0) → W p l e rmX12_isPlanned s m args below meth c H locs 0 0 Q (F0 m 82 ls [])) → ∀ (k : Nat)  (y2 : Int32)  (H : Heap) (locs : List Loc) (ls : Array Slot), WS G B s (wM G A σ) H locs → lv_has ls 3 [(0, .ref (A 0)), (1, .int y1), (2, .int y2)] → LX12_isPlanned_35 σ y1 K k y2 = some (r0, σ0) → W p l e rmX12_isPlanned s m args below meth c H locs 0 0 Q (F0 m 35 ls []) := by
            intro y1 σ K hK k
            induction k with
            | zero => intro y2 H locs ls hW hl h; rw [LX12_isPlanned_35] at h; cases h
            | succ k ih =>
              intro y2 H locs ls hW hl h
              rw [LX12_isPlanned_35] at h
              refine lv_aload_n hx hb dX12_isPlanned_35 rfl (lv_at hl 0 rfl) ?_
              refine gM_left S hW lk_X12_51 dX12_isPlanned_36 ?_
              refine lv_aload_n hx hb dX12_isPlanned_39 rfl (lv_at hl 0 rfl) ?_
              refine gM_nexts S hW lk_X12_54 dX12_isPlanned_40 ?_
              refine lv_bipush (v := 24) hx hb dX12_isPlanned_43 (by decide) ?_
              refine lv_iload_n hx hb dX12_isPlanned_45 rfl (lv_at hl 1 rfl) ?_
              refine lv_imul hx hb dX12_isPlanned_46 ?_
              refine lv_iload_n hx hb dX12_isPlanned_47 rfl (lv_at hl 2 rfl) ?_
              refine lv_iadd hx hb dX12_isPlanned_48 ?_
              refine aM_14 S hW h dX12_isPlanned_49 (fun v6 _ h => ?_)
              refine aM_13 S hW h dX12_isPlanned_50 (fun v7 _ h => ?_)
              refine lv_sipush (v := 1000) hx hb dX12_isPlanned_51 (by decide) ?_
              refine lv_aload_n hx hb dX12_isPlanned_54 rfl (lv_at hl 0 rfl) ?_
              refine gM_s S hW lk_X12_7 dX12_isPlanned_55 ?_
              refine lv_bipush (v := 72) hx hb dX12_isPlanned_58 (by decide) ?_
              refine lv_iload_n hx hb dX12_isPlanned_60 rfl (lv_at hl 2 rfl) ?_
              refine lv_iadd hx hb dX12_isPlanned_61 ?_
              refine aM_1 S hW h dX12_isPlanned_62 (fun v8 _ h => ?_)
              refine lv_imul hx hb dX12_isPlanned_63 ?_
              refine lv_iadd hx hb dX12_isPlanned_64 ?_
              refine lv_iconst (v := 1) hx hb dX12_isPlanned_65 (by decide) ?_
              refine lv_iadd hx hb dX12_isPlanned_66 ?_
              refine lv_aload_n hx hb dX12_isPlanned_67 rfl (lv_at hl 0 rfl) ?_
              refine gM_left S hW lk_X12_51 dX12_isPlanned_68 ?_
              refine lv_iload_n hx hb dX12_isPlanned_71 rfl (lv_at hl 1 rfl) ?_
              refine aM_13 S hW h dX12_isPlanned_72 (fun v9 _ h => ?_)
              refine bc_eq (tgt := 82) hx hb h dX12_isPlanned_73 (by decide) (fun _ h => ?_) (fun _ h => ?_)
              · exact hK y2 _ _ _ hW (hl) h
              · refine w_iinc (lv' := [(0, .ref (A 0)), (1, .int y1)]) hx hb dX12_isPlanned_76 hl (k := 2) rfl (by decide) (by decide) rfl h (fun v10 ls hl h => ?_)
                refine lv_goto (tgt := 35) hx hb dX12_isPlanned_79 (by decide) ?_
                exact ih v10 _ _ _ hW (lv_sub hl [1, 2, 0] rfl) h
          refine hL35 y1 σ _ (fun w11 H locs ls hW hl h => ?_) n 0 _ _ _ hW (lv_sub hl [1, 2, 0] rfl) h
          refine lv_aload_n hx hb dX12_isPlanned_82 rfl (lv_at hl 0 rfl) ?_
          refine gM_plan S hW lk_X12_57 dX12_isPlanned_83 ?_
          refine lv_aload_n hx hb dX12_isPlanned_86 rfl (lv_at hl 0 rfl) ?_
          refine gM_planMany S hW lk_X12_241 dX12_isPlanned_87 ?_
          refine lv_iload_n hx hb dX12_isPlanned_90 rfl (lv_at hl 2 rfl) ?_
          refine sM_15 S hW h dX12_isPlanned_91 (fun σ12 H locs eσ12 _ h hW => ?_)
          have h := lt_at eσ12 h
          refine lv_aload_n hx hb dX12_isPlanned_92 rfl (lv_at hl 0 rfl) ?_
          refine lv_dup hx hb dX12_isPlanned_93 rfl ?_
          refine gM_planMany S hW lk_X12_241 dX12_isPlanned_94 ?_
          refine lv_iconst (v := 1) hx hb dX12_isPlanned_97 (by decide) ?_
          refine lv_iadd hx hb dX12_isPlanned_98 ?_
          refine pM_planMany S hW lk_X12_241 dX12_isPlanned_99 (fun σ13 H locs eσ13 hW => ?_)
          have h := lt_at eσ13 h
          refine lv_aload_n hx hb dX12_isPlanned_102 rfl (lv_at hl 0 rfl) ?_
          refine gM_nexts S hW lk_X12_54 dX12_isPlanned_103 ?_
          refine lv_bipush (v := 24) hx hb dX12_isPlanned_106 (by decide) ?_
          refine lv_iload_n hx hb dX12_isPlanned_108 rfl (lv_at hl 1 rfl) ?_
          refine lv_imul hx hb dX12_isPlanned_109 ?_
          refine lv_iload_n hx hb dX12_isPlanned_110 rfl (lv_at hl 2 rfl) ?_
          refine lv_iadd hx hb dX12_isPlanned_111 ?_
          refine aM_14 S hW h dX12_isPlanned_112 (fun v14 _ h => ?_)
          refine lv_istore_n (lv' := [(1, .int v14), (0, .ref (A 0)), (2, .int w11)]) hx hb dX12_isPlanned_113 rfl hl (by decide) rfl (fun ls hl => ?_)
          refine lv_goto (tgt := 24) hx hb dX12_isPlanned_114 (by decide) ?_
          exact ih σ13 v14 _ _ _ hW (lv_sub hl [1, 0] rfl) h
    refine hL24  _ (fun σ15 H locs ls hW hl h => ?_) n σ3 0 _ _ _ hW (lv_sub hl [1, 0] rfl) h
    refine lv_iconst (v := 1) hx hb dX12_isPlanned_117 (by decide) ?_
    exact ret_is (wf := wM G A) hret h (nar_z (Or.inr rfl)) hW dX12_isPlanned_118
  · refine lv_iconst (v := 0) hx hb dX12_isPlanned_20 (by decide) ?_
    exact ret_is (wf := wM G A) hret h (nar_z (Or.inl rfl)) hW dX12_isPlanned_21
def rmX12_best : Room := { frames := 3, cells := 0, slots := 0, locals := 69 }
def f_X12_best (n : Nat) (σ : SC) (a1 : Int32) : Option (Int32 × SC) := if (f_X12_in a1 0 1) = 0 then bd2 (f_X12_refusedBelow σ (-5)) (fun v3 σ2 => some (v3, σ2)) else bd2 (f_X12_goesOn n σ) (fun v6 σ5 => if v6 = 0 then bd2 (f_X12_refusedBelow σ5 (-5)) (fun v13 σ12 => some (v13, σ12)) else bd2 (f_X12_isPlanned n σ5) (fun v9 σ8 => if v9 = 0 then some ((-1), σ8) else if a1 = 0 then ld (ga σ8 10) 300 0 (fun v10 => some ((v10 / 1000), σ8)) else some ((gi σ8 9), σ8)))
theorem mi_X12_best : MI yX12_best cX12_best 2 (some .int) 1 := ⟨im_X12_best, se_X12_best, in_X12, co_X12_best, by decide, by decide, by decide +kernel⟩
set_option maxRecDepth 100000 in
set_option maxHeartbeats 4000000 in
theorem ct_X12_best (l : Launch) (n : Nat) (G : EN) (A : Nat → Nat) (σ : SC) (sz : Nat) (a1 : Int32) {r0 : Int32} {σ0 : SC} (h : f_X12_best n σ a1 = some (r0, σ0)) : CT l yX12_best cX12_best 2 (some .int) rmX12_best G sz [.ref (A 0), .int a1] (wM G A σ) (QI G (va_A (wM G A σ) sz) r0 (wM G A σ0)) := by
  unfold f_X12_best at h
  refine CI.intro (lv := [(0, .ref (A 0)), (1, .int a1)]) (by decide) (Nat.le_of_ble_eq_true rfl) rfl ?_
  intro p e s m args below meth c Q B S hret H locs ls hW hl
  have hx := S.1
  have hb := S.2.1
  refine lv_iload_n hx hb dX12_best_0 rfl (lv_at hl 1 rfl) ?_
  refine lv_iconst (v := 0) hx hb dX12_best_1 (by decide) ?_
  refine lv_iconst (v := 1) hx hb dX12_best_2 (by decide) ?_
  refine back_i (rest := []) hW (run_S S hW (ct_X12_in l G A σ _ a1 0 1 rfl) ms_X12_in lk_X12_67 rfl rfl hl (Nat.le_of_ble_eq_true rfl) dX12_best_3 ⟨Nat.le_of_ble_eq_true rfl, Nat.le_of_ble_eq_true rfl⟩ rfl rfl) (fun H locs hW => ?_)
  refine bz_eq (tgt := 16) hx hb h dX12_best_6 (by decide) (fun _ h => ?_) (fun _ h => ?_)
  · refine lv_aload_n hx hb dX12_best_16 rfl (lv_at hl 0 rfl) ?_
    refine lv_bipush (v := (-5)) hx hb dX12_best_17 (by decide) ?_
    obtain ⟨v3, σ2, h1, h⟩ := bd2_o h
    refine back_i (rest := []) hW (run_V S hW (ct_X12_refusedBelow l G A σ _ (-5) h1) mi_X12_refusedBelow lk_X12_177 (eM_0 G A σ) rfl rfl rfl hl (Nat.le_of_ble_eq_true rfl) dX12_best_19 ⟨Nat.le_of_ble_eq_true rfl, Nat.le_of_ble_eq_true rfl⟩ rfl rfl) (fun H locs hW => ?_)
    exact ret_is (wf := wM G A) hret h rfl hW dX12_best_22
  · refine lv_aload_n hx hb dX12_best_9 rfl (lv_at hl 0 rfl) ?_
    obtain ⟨v6, σ5, h4, h⟩ := bd2_o h
    refine back_i (rest := []) hW (run_V S hW (ct_X12_goesOn l n G A σ _ h4) mi_X12_goesOn lk_X12_232 (eM_0 G A σ) rfl rfl rfl hl (Nat.le_of_ble_eq_true rfl) dX12_best_10 ⟨Nat.le_of_ble_eq_true rfl, Nat.le_of_ble_eq_true rfl⟩ rfl rfl) (fun H locs hW => ?_)
    refine bz_ne (tgt := 23) hx hb h dX12_best_13 (by decide) (fun _ h => ?_) (fun _ h => ?_)
    · refine lv_aload_n hx hb dX12_best_16 rfl (lv_at hl 0 rfl) ?_
      refine lv_bipush (v := (-5)) hx hb dX12_best_17 (by decide) ?_
      obtain ⟨v13, σ12, h11, h⟩ := bd2_o h
      refine back_i (rest := []) hW (run_V S hW (ct_X12_refusedBelow l G A σ5 _ (-5) h11) mi_X12_refusedBelow lk_X12_177 (eM_0 G A σ5) rfl rfl rfl hl (Nat.le_of_ble_eq_true rfl) dX12_best_19 ⟨Nat.le_of_ble_eq_true rfl, Nat.le_of_ble_eq_true rfl⟩ rfl rfl) (fun H locs hW => ?_)
      exact ret_is (wf := wM G A) hret h rfl hW dX12_best_22
    · refine lv_aload_n hx hb dX12_best_23 rfl (lv_at hl 0 rfl) ?_
      obtain ⟨v9, σ8, h7, h⟩ := bd2_o h
      refine back_i (rest := []) hW (run_V S hW (ct_X12_isPlanned l n G A σ5 _ h7) mi_X12_isPlanned lk_X12_244 (eM_0 G A σ5) rfl rfl rfl hl (Nat.le_of_ble_eq_true rfl) dX12_best_24 ⟨Nat.le_of_ble_eq_true rfl, Nat.le_of_ble_eq_true rfl⟩ rfl rfl) (fun H locs hW => ?_)
      refine bz_ne (tgt := 32) hx hb h dX12_best_27 (by decide) (fun _ h => ?_) (fun _ h => ?_)
      · refine lv_iconst (v := (-1)) hx hb dX12_best_30 (by decide) ?_
        exact ret_is (wf := wM G A) hret h rfl hW dX12_best_31
      · refine lv_iload_n hx hb dX12_best_32 rfl (lv_at hl 1 rfl) ?_
        refine bz_ne (tgt := 49) hx hb h dX12_best_33 (by decide) (fun _ h => ?_) (fun _ h => ?_)
        · refine lv_aload_n hx hb dX12_best_36 rfl (lv_at hl 0 rfl) ?_
          refine gM_left S hW lk_X12_51 dX12_best_37 ?_
          refine lv_iconst (v := 0) hx hb dX12_best_40 (by decide) ?_
          refine aM_13 S hW h dX12_best_41 (fun v10 _ h => ?_)
          refine lv_sipush (v := 1000) hx hb dX12_best_42 (by decide) ?_
          refine lv_idiv hx hb dX12_best_45 (by decide) ?_
          refine lv_goto (tgt := 53) hx hb dX12_best_46 (by decide) ?_
          exact ret_is (wf := wM G A) hret h rfl hW dX12_best_53
        · refine lv_aload_n hx hb dX12_best_49 rfl (lv_at hl 0 rfl) ?_
          refine gM_planMany S hW lk_X12_241 dX12_best_50 ?_
          exact ret_is (wf := wM G A) hret h rfl hW dX12_best_53
def rmX12_bestAt : Room := { frames := 3, cells := 0, slots := 0, locals := 69 }
def f_X12_bestAt (n : Nat) (σ : SC) (a1 : Int32) : Option (Int32 × SC) := bd2 (f_X12_goesOn n σ) (fun v3 σ2 => if v3 = 0 then bd2 (f_X12_refusedBelow σ2 (-5)) (fun v10 σ9 => some (v10, σ9)) else bd2 (f_X12_isPlanned n σ2) (fun v6 σ5 => if v6 = 0 then some ((-1), σ5) else if (f_X12_in a1 0 ((gi σ5 9) - 1)) = 0 then some ((-1), σ5) else ld (ga σ5 12) 300 a1 (fun v7 => some (v7, σ5))))
theorem mi_X12_bestAt : MI yX12_bestAt cX12_bestAt 2 (some .int) 1 := ⟨im_X12_bestAt, se_X12_bestAt, in_X12, co_X12_bestAt, by decide, by decide, by decide +kernel⟩
set_option maxRecDepth 100000 in
set_option maxHeartbeats 4000000 in
theorem ct_X12_bestAt (l : Launch) (n : Nat) (G : EN) (A : Nat → Nat) (σ : SC) (sz : Nat) (a1 : Int32) {r0 : Int32} {σ0 : SC} (h : f_X12_bestAt n σ a1 = some (r0, σ0)) : CT l yX12_bestAt cX12_bestAt 2 (some .int) rmX12_bestAt G sz [.ref (A 0), .int a1] (wM G A σ) (QI G (va_A (wM G A σ) sz) r0 (wM G A σ0)) := by
  unfold f_X12_bestAt at h
  refine CI.intro (lv := [(0, .ref (A 0)), (1, .int a1)]) (by decide) (Nat.le_of_ble_eq_true rfl) rfl ?_
  intro p e s m args below meth c Q B S hret H locs ls hW hl
  have hx := S.1
  have hb := S.2.1
  refine lv_aload_n hx hb dX12_bestAt_0 rfl (lv_at hl 0 rfl) ?_
  obtain ⟨v3, σ2, h1, h⟩ := bd2_o h
  refine back_i (rest := []) hW (run_V S hW (ct_X12_goesOn l n G A σ _ h1) mi_X12_goesOn lk_X12_232 (eM_0 G A σ) rfl rfl rfl hl (Nat.le_of_ble_eq_true rfl) dX12_bestAt_1 ⟨Nat.le_of_ble_eq_true rfl, Nat.le_of_ble_eq_true rfl⟩ rfl rfl) (fun H locs hW => ?_)
  refine bz_ne (tgt := 14) hx hb h dX12_bestAt_4 (by decide) (fun _ h => ?_) (fun _ h => ?_)
  · refine lv_aload_n hx hb dX12_bestAt_7 rfl (lv_at hl 0 rfl) ?_
    refine lv_bipush (v := (-5)) hx hb dX12_bestAt_8 (by decide) ?_
    obtain ⟨v10, σ9, h8, h⟩ := bd2_o h
    refine back_i (rest := []) hW (run_V S hW (ct_X12_refusedBelow l G A σ2 _ (-5) h8) mi_X12_refusedBelow lk_X12_177 (eM_0 G A σ2) rfl rfl rfl hl (Nat.le_of_ble_eq_true rfl) dX12_bestAt_10 ⟨Nat.le_of_ble_eq_true rfl, Nat.le_of_ble_eq_true rfl⟩ rfl rfl) (fun H locs hW => ?_)
    exact ret_is (wf := wM G A) hret h rfl hW dX12_bestAt_13
  · refine lv_aload_n hx hb dX12_bestAt_14 rfl (lv_at hl 0 rfl) ?_
    obtain ⟨v6, σ5, h4, h⟩ := bd2_o h
    refine back_i (rest := []) hW (run_V S hW (ct_X12_isPlanned l n G A σ2 _ h4) mi_X12_isPlanned lk_X12_244 (eM_0 G A σ2) rfl rfl rfl hl (Nat.le_of_ble_eq_true rfl) dX12_bestAt_15 ⟨Nat.le_of_ble_eq_true rfl, Nat.le_of_ble_eq_true rfl⟩ rfl rfl) (fun H locs hW => ?_)
    refine bz_eq (tgt := 44) hx hb h dX12_bestAt_18 (by decide) (fun _ h => ?_) (fun _ h => ?_)
    · refine lv_iconst (v := (-1)) hx hb dX12_bestAt_44 (by decide) ?_
      exact ret_is (wf := wM G A) hret h rfl hW dX12_bestAt_45
    · refine lv_iload_n hx hb dX12_bestAt_21 rfl (lv_at hl 1 rfl) ?_
      refine lv_iconst (v := 0) hx hb dX12_bestAt_22 (by decide) ?_
      refine lv_aload_n hx hb dX12_bestAt_23 rfl (lv_at hl 0 rfl) ?_
      refine gM_planMany S hW lk_X12_241 dX12_bestAt_24 ?_
      refine lv_iconst (v := 1) hx hb dX12_bestAt_27 (by decide) ?_
      refine lv_isub hx hb dX12_bestAt_28 ?_
      refine back_i (rest := []) hW (run_S S hW (ct_X12_in l G A σ5 _ a1 0 ((gi σ5 9) - 1) rfl) ms_X12_in lk_X12_67 rfl rfl hl (Nat.le_of_ble_eq_true rfl) dX12_bestAt_29 ⟨Nat.le_of_ble_eq_true rfl, Nat.le_of_ble_eq_true rfl⟩ rfl rfl) (fun H locs hW => ?_)
      refine bz_eq (tgt := 44) hx hb h dX12_bestAt_32 (by decide) (fun _ h => ?_) (fun _ h => ?_)
      · refine lv_iconst (v := (-1)) hx hb dX12_bestAt_44 (by decide) ?_
        exact ret_is (wf := wM G A) hret h rfl hW dX12_bestAt_45
      · refine lv_aload_n hx hb dX12_bestAt_35 rfl (lv_at hl 0 rfl) ?_
        refine gM_plan S hW lk_X12_57 dX12_bestAt_36 ?_
        refine lv_iload_n hx hb dX12_bestAt_39 rfl (lv_at hl 1 rfl) ?_
        refine aM_15 S hW h dX12_bestAt_40 (fun v7 _ h => ?_)
        refine lv_goto (tgt := 45) hx hb dX12_bestAt_41 (by decide) ?_
        exact ret_is (wf := wM G A) hret h rfl hW dX12_bestAt_45
def rmX12_spell : Room := { frames := 3, cells := 0, slots := 0, locals := 69 }
def LX12_spell_59 (y1 : Int32) (K : SC → Option (Int32 × SC)) : Nat → SC → Int32 → Option (Int32 × SC)
  | 0, _, _ => none
  | k + 1, σ, y3 => if (gi σ 9) ≤ y3 then K σ else ld (ga σ 12) 300 y3 (fun v13 => ck 1280 ((160 * y1) + y3) (lt (sl σ 0 (vp_updL (gl σ 0) ((160 * y1) + y3).toNatClampNeg (v13.toInt64))) (fun σ14 => lt (y3 + 1) (fun v15 => LX12_spell_59 y1 K k σ14 v15))))
def f_X12_spell (n : Nat) (σ : SC) (a1 : Int32) : Option (Int32 × SC) := bd (f_X12_wanted σ a1) (fun v2 => if v2 = 0 then bd2 (f_X12_goesOn n σ) (fun v5 σ4 => if v5 = 0 then bd2 (f_X12_refused σ4 (-5)) (fun v8 σ7 => some (v8, σ7)) else bd2 (f_X12_isPlanned n σ4) (fun v11 σ10 => if v11 = 0 then bd2 (f_X12_refused σ10 (-5)) (fun v22 σ21 => some (v22, σ21)) else ld (ga σ10 4) 8 a1 (fun v12 => if (gi σ10 9) ≤ v12 then LX12_spell_59 a1 (fun σ16 => some ((gi σ16 9), σ16)) n σ10 0 else bd2 (f_X12_refused σ10 (-7)) (fun v19 σ18 => some (v19, σ18))))) else bd2 (f_X12_refused σ v2) (fun v25 σ24 => some (v25, σ24)))
theorem mi_X12_spell : MI yX12_spell cX12_spell 4 (some .int) 1 := ⟨im_X12_spell, se_X12_spell, in_X12, co_X12_spell, by decide, by decide, by decide +kernel⟩
set_option maxRecDepth 100000 in
set_option maxHeartbeats 4000000 in
theorem ct_X12_spell (l : Launch) (n : Nat) (G : EN) (A : Nat → Nat) (σ : SC) (sz : Nat) (a1 : Int32) {r0 : Int32} {σ0 : SC} (h : f_X12_spell n σ a1 = some (r0, σ0)) : CT l yX12_spell cX12_spell 4 (some .int) rmX12_spell G sz [.ref (A 0), .int a1] (wM G A σ) (QI G (va_A (wM G A σ) sz) r0 (wM G A σ0)) := by
  unfold f_X12_spell at h
  refine CI.intro (lv := [(0, .ref (A 0)), (1, .int a1)]) (by decide) (Nat.le_of_ble_eq_true rfl) rfl ?_
  intro p e s m args below meth c Q B S hret H locs ls hW hl
  have hx := S.1
  have hb := S.2.1
  refine lv_aload_n hx hb dX12_spell_0 rfl (lv_at hl 0 rfl) ?_
  refine lv_iload_n hx hb dX12_spell_1 rfl (lv_at hl 1 rfl) ?_
  obtain ⟨v2, h1, h⟩ := bd_o h
  refine back_i (rest := []) hW (run_V S hW (ct_X12_wanted l G A σ _ a1 h1) mi_X12_wanted lk_X12_79 (eM_0 G A σ) rfl rfl rfl hl (Nat.le_of_ble_eq_true rfl) dX12_spell_2 ⟨Nat.le_of_ble_eq_true rfl, Nat.le_of_ble_eq_true rfl⟩ rfl rfl) (fun H locs hW => ?_)
  refine lv_istore_n (lv' := [(2, .int v2), (0, .ref (A 0)), (1, .int a1)]) hx hb dX12_spell_5 rfl hl (by decide) rfl (fun ls hl => ?_)
  refine lv_iload_n hx hb dX12_spell_6 rfl (lv_at hl 0 rfl) ?_
  refine bz_eq (tgt := 16) hx hb h dX12_spell_7 (by decide) (fun _ h => ?_) (fun _ h => ?_)
  · refine lv_aload_n hx hb dX12_spell_16 rfl (lv_at hl 1 rfl) ?_
    obtain ⟨v5, σ4, h3, h⟩ := bd2_o h
    refine back_i (rest := []) hW (run_V S hW (ct_X12_goesOn l n G A σ _ h3) mi_X12_goesOn lk_X12_232 (eM_0 G A σ) rfl rfl rfl hl (Nat.le_of_ble_eq_true rfl) dX12_spell_17 ⟨Nat.le_of_ble_eq_true rfl, Nat.le_of_ble_eq_true rfl⟩ rfl rfl) (fun H locs hW => ?_)
    refine bz_eq (tgt := 30) hx hb h dX12_spell_20 (by decide) (fun _ h => ?_) (fun _ h => ?_)
    · refine lv_aload_n hx hb dX12_spell_30 rfl (lv_at hl 1 rfl) ?_
      refine lv_bipush (v := (-5)) hx hb dX12_spell_31 (by decide) ?_
      obtain ⟨v8, σ7, h6, h⟩ := bd2_o h
      refine back_i (rest := []) hW (run_V S hW (ct_X12_refused l G A σ4 _ (-5) h6) mi_X12_refused lk_X12_75 (eM_0 G A σ4) rfl rfl rfl hl (Nat.le_of_ble_eq_true rfl) dX12_spell_33 ⟨Nat.le_of_ble_eq_true rfl, Nat.le_of_ble_eq_true rfl⟩ rfl rfl) (fun H locs hW => ?_)
      exact ret_is (wf := wM G A) hret h rfl hW dX12_spell_36
    · refine lv_aload_n hx hb dX12_spell_23 rfl (lv_at hl 1 rfl) ?_
      obtain ⟨v11, σ10, h9, h⟩ := bd2_o h
      refine back_i (rest := []) hW (run_V S hW (ct_X12_isPlanned l n G A σ4 _ h9) mi_X12_isPlanned lk_X12_244 (eM_0 G A σ4) rfl rfl rfl hl (Nat.le_of_ble_eq_true rfl) dX12_spell_24 ⟨Nat.le_of_ble_eq_true rfl, Nat.le_of_ble_eq_true rfl⟩ rfl rfl) (fun H locs hW => ?_)
      refine bz_ne (tgt := 37) hx hb h dX12_spell_27 (by decide) (fun _ h => ?_) (fun _ h => ?_)
      · refine lv_aload_n hx hb dX12_spell_30 rfl (lv_at hl 1 rfl) ?_
        refine lv_bipush (v := (-5)) hx hb dX12_spell_31 (by decide) ?_
        obtain ⟨v22, σ21, h20, h⟩ := bd2_o h
        refine back_i (rest := []) hW (run_V S hW (ct_X12_refused l G A σ10 _ (-5) h20) mi_X12_refused lk_X12_75 (eM_0 G A σ10) rfl rfl rfl hl (Nat.le_of_ble_eq_true rfl) dX12_spell_33 ⟨Nat.le_of_ble_eq_true rfl, Nat.le_of_ble_eq_true rfl⟩ rfl rfl) (fun H locs hW => ?_)
        exact ret_is (wf := wM G A) hret h rfl hW dX12_spell_36
      · refine lv_aload_n hx hb dX12_spell_37 rfl (lv_at hl 1 rfl) ?_
        refine gM_planMany S hW lk_X12_241 dX12_spell_38 ?_
        refine lv_aload_n hx hb dX12_spell_41 rfl (lv_at hl 1 rfl) ?_
        refine gM_sizes S hW lk_X12_22 dX12_spell_42 ?_
        refine lv_iload_n hx hb dX12_spell_45 rfl (lv_at hl 2 rfl) ?_
        refine aM_5 S hW h dX12_spell_46 (fun v12 _ h => ?_)
        refine bc_le (tgt := 57) hx hb h dX12_spell_47 (by decide) (fun _ h => ?_) (fun _ h => ?_)
        · refine lv_iconst (v := 0) hx hb dX12_spell_57 (by decide) ?_
          refine lv_istore_n (lv' := [(3, .int 0), (2, .int v2), (0, .ref (A 0)), (1, .int a1)]) hx hb dX12_spell_58 rfl hl (by decide) rfl (fun ls hl => ?_)
          have hL59 : ∀ (y1 : Int32) (K : SC → Option (Int32 × SC)), (∀ (σ : SC) (H : Heap) (locs : List Loc) (ls : Array Slot), WS G B s (wM G A σ) H locs → lv_has ls 4 [(0, .ref (A 0))] → K σ = some (r0, σ0) → W p l e rmX12_spell s m args below meth c H locs 0 0 Q (F0 m 92 ls [])) → ∀ (k : Nat) (σ : SC) (y3 : Int32)  (H : Heap) (locs : List Loc) (ls : Array Slot), WS G B s (wM G A σ) H locs → lv_has ls 4 [(0, .ref (A 0)), (1, .int y1), (3, .int y3)] → LX12_spell_59 y1 K k σ y3 = some (r0, σ0) → W p l e rmX12_spell s m args below meth c H locs 0 0 Q (F0 m 59 ls []) := by
            intro y1 K hK k
            induction k with
            | zero => intro σ y3 H locs ls hW hl h; rw [LX12_spell_59] at h; cases h
            | succ k ih =>
              intro σ y3 H locs ls hW hl h
              rw [LX12_spell_59] at h
              refine lv_iload_n hx hb dX12_spell_59 rfl (lv_at hl 2 rfl) ?_
              refine lv_aload_n hx hb dX12_spell_60 rfl (lv_at hl 0 rfl) ?_
              refine gM_planMany S hW lk_X12_241 dX12_spell_61 ?_
              refine bc_ge (tgt := 92) hx hb h dX12_spell_64 (by decide) (fun _ h => ?_) (fun _ h => ?_)
              · exact hK σ _ _ _ hW (lv_sub hl [0] rfl) h
              · refine lv_aload_n hx hb dX12_spell_67 rfl (lv_at hl 0 rfl) ?_
                refine gM_items S hW lk_X12_25 dX12_spell_68 ?_
                refine lv_sipush (v := 160) hx hb dX12_spell_71 (by decide) ?_
                refine lv_iload_n hx hb dX12_spell_74 rfl (lv_at hl 1 rfl) ?_
                refine lv_imul hx hb dX12_spell_75 ?_
                refine lv_iload_n hx hb dX12_spell_76 rfl (lv_at hl 2 rfl) ?_
                refine lv_iadd hx hb dX12_spell_77 ?_
                refine lv_aload_n hx hb dX12_spell_78 rfl (lv_at hl 0 rfl) ?_
                refine gM_plan S hW lk_X12_57 dX12_spell_79 ?_
                refine lv_iload_n hx hb dX12_spell_82 rfl (lv_at hl 2 rfl) ?_
                refine aM_15 S hW h dX12_spell_83 (fun v13 _ h => ?_)
                refine lv_i2l hx hb dX12_spell_84 rfl ?_
                refine sM_6 S hW h dX12_spell_85 (fun σ14 H locs eσ14 _ h hW => ?_)
                have h := lt_at eσ14 h
                refine w_iinc (lv' := [(0, .ref (A 0)), (1, .int y1)]) hx hb dX12_spell_86 hl (k := 2) rfl (by decide) (by decide) rfl h (fun v15 ls hl h => ?_)
                refine lv_goto (tgt := 59) hx hb dX12_spell_89 (by decide) ?_
                exact ih σ14 v15 _ _ _ hW (lv_sub hl [1, 2, 0] rfl) h
          refine hL59 a1 _ (fun σ16 H locs ls hW hl h => ?_) n σ10 0 _ _ _ hW (lv_sub hl [2, 3, 0] rfl) h
          refine lv_aload_n hx hb dX12_spell_92 rfl (lv_at hl 0 rfl) ?_
          refine gM_planMany S hW lk_X12_241 dX12_spell_93 ?_
          exact ret_is (wf := wM G A) hret h rfl hW dX12_spell_96
        · refine lv_aload_n hx hb dX12_spell_50 rfl (lv_at hl 1 rfl) ?_
          refine lv_bipush (v := (-7)) hx hb dX12_spell_51 (by decide) ?_
          obtain ⟨v19, σ18, h17, h⟩ := bd2_o h
          refine back_i (rest := []) hW (run_V S hW (ct_X12_refused l G A σ10 _ (-7) h17) mi_X12_refused lk_X12_75 (eM_0 G A σ10) rfl rfl rfl hl (Nat.le_of_ble_eq_true rfl) dX12_spell_53 ⟨Nat.le_of_ble_eq_true rfl, Nat.le_of_ble_eq_true rfl⟩ rfl rfl) (fun H locs hW => ?_)
          exact ret_is (wf := wM G A) hret h rfl hW dX12_spell_56
  · refine lv_aload_n hx hb dX12_spell_10 rfl (lv_at hl 1 rfl) ?_
    refine lv_iload_n hx hb dX12_spell_11 rfl (lv_at hl 0 rfl) ?_
    obtain ⟨v25, σ24, h23, h⟩ := bd2_o h
    refine back_i (rest := []) hW (run_V S hW (ct_X12_refused l G A σ _ v2 h23) mi_X12_refused lk_X12_75 (eM_0 G A σ) rfl rfl rfl hl (Nat.le_of_ble_eq_true rfl) dX12_spell_12 ⟨Nat.le_of_ble_eq_true rfl, Nat.le_of_ble_eq_true rfl⟩ rfl rfl) (fun H locs hW => ?_)
    exact ret_is (wf := wM G A) hret h rfl hW dX12_spell_15
def rmX12_told : Room := { frames := 0, cells := 0, slots := 0, locals := 0 }
def f_X12_told (σ : SC) (a1 : Int32) (a2 : Int32) : Option Int32 := ld (gl σ 0) 1280 ((160 * a1) + a2) (fun v1 => some (v1.toInt32))
theorem mi_X12_told : MI yX12_told cX12_told 3 (some .int) 2 := ⟨im_X12_told, se_X12_told, in_X12, co_X12_told, by decide, by decide, by decide +kernel⟩
set_option maxRecDepth 100000 in
set_option maxHeartbeats 4000000 in
theorem ct_X12_told (l : Launch) (G : EN) (A : Nat → Nat) (σ : SC) (sz : Nat) (a1 : Int32) (a2 : Int32) {r0 : Int32} (h : f_X12_told σ a1 a2 = some r0) : CT l yX12_told cX12_told 3 (some .int) rmX12_told G sz [.ref (A 0), .int a1, .int a2] (wM G A σ) (QI G (va_A (wM G A σ) sz) r0 (wM G A σ)) := by
  unfold f_X12_told at h
  refine CI.intro (lv := [(0, .ref (A 0)), (1, .int a1), (2, .int a2)]) (by decide) (Nat.le_of_ble_eq_true rfl) rfl ?_
  intro p e s m args below meth c Q B S hret H locs ls hW hl
  have hx := S.1
  have hb := S.2.1
  refine lv_aload_n hx hb dX12_told_0 rfl (lv_at hl 0 rfl) ?_
  refine gM_items S hW lk_X12_25 dX12_told_1 ?_
  refine lv_sipush (v := 160) hx hb dX12_told_4 (by decide) ?_
  refine lv_iload_n hx hb dX12_told_7 rfl (lv_at hl 1 rfl) ?_
  refine lv_imul hx hb dX12_told_8 ?_
  refine lv_iload_n hx hb dX12_told_9 rfl (lv_at hl 2 rfl) ?_
  refine lv_iadd hx hb dX12_told_10 ?_
  refine aM_6 S hW h dX12_told_11 (fun v1 _ h => ?_)
  refine lv_l2i hx hb dX12_told_12 rfl ?_
  exact hret H locs _ ls _ (Option.some.inj h) rfl hW dX12_told_13
def rmX12_wantedPlan : Room := { frames := 3, cells := 0, slots := 0, locals := 63 }
def f_X12_wantedPlan (σ : SC) (a1 : Int32) (a2 : Int32) : Option Int32 := bd (f_X12_wanted σ a1) (fun v2 => if v2 = 0 then if 0 ≤ a2 then ld (ga σ 4) 8 a1 (fun v3 => if a2 ≤ v3 then if a2 ≤ 100 then some 0 else some (-6) else some (-5)) else some (-4) else some v2)
theorem mi_X12_wantedPlan : MI yX12_wantedPlan cX12_wantedPlan 4 (some .int) 2 := ⟨im_X12_wantedPlan, se_X12_wantedPlan, in_X12, co_X12_wantedPlan, by decide, by decide, by decide +kernel⟩
set_option maxRecDepth 100000 in
set_option maxHeartbeats 4000000 in
theorem ct_X12_wantedPlan (l : Launch) (G : EN) (A : Nat → Nat) (σ : SC) (sz : Nat) (a1 : Int32) (a2 : Int32) {r0 : Int32} (h : f_X12_wantedPlan σ a1 a2 = some r0) : CT l yX12_wantedPlan cX12_wantedPlan 4 (some .int) rmX12_wantedPlan G sz [.ref (A 0), .int a1, .int a2] (wM G A σ) (QI G (va_A (wM G A σ) sz) r0 (wM G A σ)) := by
  unfold f_X12_wantedPlan at h
  refine CI.intro (lv := [(0, .ref (A 0)), (1, .int a1), (2, .int a2)]) (by decide) (Nat.le_of_ble_eq_true rfl) rfl ?_
  intro p e s m args below meth c Q B S hret H locs ls hW hl
  have hx := S.1
  have hb := S.2.1
  refine lv_aload_n hx hb dX12_wantedPlan_0 rfl (lv_at hl 0 rfl) ?_
  refine lv_iload_n hx hb dX12_wantedPlan_1 rfl (lv_at hl 1 rfl) ?_
  obtain ⟨v2, h1, h⟩ := bd_o h
  refine back_i (rest := []) hW (run_V S hW (ct_X12_wanted l G A σ _ a1 h1) mi_X12_wanted lk_X12_79 (eM_0 G A σ) rfl rfl rfl hl (Nat.le_of_ble_eq_true rfl) dX12_wantedPlan_2 ⟨Nat.le_of_ble_eq_true rfl, Nat.le_of_ble_eq_true rfl⟩ rfl rfl) (fun H locs hW => ?_)
  refine lv_istore_n (lv' := [(3, .int v2), (0, .ref (A 0)), (1, .int a1), (2, .int a2)]) hx hb dX12_wantedPlan_5 rfl hl (by decide) rfl (fun ls hl => ?_)
  refine lv_iload_n hx hb dX12_wantedPlan_6 rfl (lv_at hl 0 rfl) ?_
  refine bz_eq (tgt := 14) hx hb h dX12_wantedPlan_7 (by decide) (fun _ h => ?_) (fun _ h => ?_)
  · refine lv_iload_n hx hb dX12_wantedPlan_14 rfl (lv_at hl 3 rfl) ?_
    refine bz_ge (tgt := 23) hx hb h dX12_wantedPlan_15 (by decide) (fun _ h => ?_) (fun _ h => ?_)
    · refine lv_iload_n hx hb dX12_wantedPlan_23 rfl (lv_at hl 3 rfl) ?_
      refine lv_aload_n hx hb dX12_wantedPlan_24 rfl (lv_at hl 1 rfl) ?_
      refine gM_sizes S hW lk_X12_22 dX12_wantedPlan_25 ?_
      refine lv_iload_n hx hb dX12_wantedPlan_28 rfl (lv_at hl 2 rfl) ?_
      refine aM_5 S hW h dX12_wantedPlan_29 (fun v3 _ h => ?_)
      refine bc_le (tgt := 38) hx hb h dX12_wantedPlan_30 (by decide) (fun _ h => ?_) (fun _ h => ?_)
      · refine lv_iload_n hx hb dX12_wantedPlan_38 rfl (lv_at hl 3 rfl) ?_
        refine lv_bipush (v := 100) hx hb dX12_wantedPlan_39 (by decide) ?_
        refine bc_le (tgt := 49) hx hb h dX12_wantedPlan_41 (by decide) (fun _ h => ?_) (fun _ h => ?_)
        · refine lv_iconst (v := 0) hx hb dX12_wantedPlan_49 (by decide) ?_
          exact hret H locs _ ls _ (Option.some.inj h) rfl hW dX12_wantedPlan_50
        · refine lv_bipush (v := (-6)) hx hb dX12_wantedPlan_44 (by decide) ?_
          refine lv_goto (tgt := 50) hx hb dX12_wantedPlan_46 (by decide) ?_
          exact hret H locs _ ls _ (Option.some.inj h) rfl hW dX12_wantedPlan_50
      · refine lv_bipush (v := (-5)) hx hb dX12_wantedPlan_33 (by decide) ?_
        refine lv_goto (tgt := 50) hx hb dX12_wantedPlan_35 (by decide) ?_
        exact hret H locs _ ls _ (Option.some.inj h) rfl hW dX12_wantedPlan_50
    · refine lv_bipush (v := (-4)) hx hb dX12_wantedPlan_18 (by decide) ?_
      refine lv_goto (tgt := 50) hx hb dX12_wantedPlan_20 (by decide) ?_
      exact hret H locs _ ls _ (Option.some.inj h) rfl hW dX12_wantedPlan_50
  · refine lv_iload_n hx hb dX12_wantedPlan_10 rfl (lv_at hl 0 rfl) ?_
    refine lv_goto (tgt := 50) hx hb dX12_wantedPlan_11 (by decide) ?_
    exact hret H locs _ ls _ (Option.some.inj h) rfl hW dX12_wantedPlan_50
def rmX12_wrongOf : Room := { frames := 2, cells := 0, slots := 0, locals := 43 }
def LX12_wrongOf_19 (y1 : Int32) (y2 : Int32) (K : SC → Option (Int32 × SC)) : Nat → SC → Int32 → Option (Int32 × SC)
  | 0, _, _ => none
  | k + 1, σ, y3 => if y2 ≤ y3 then K σ else bd (f_X12_told σ y1 y3) (fun v5 => bd (f_X12_isAction σ v5) (fun v7 => if v7 = 0 then some (y3, σ) else bd (f_X12_mayBe σ (gi σ 10) v5) (fun v9 => if v9 = 0 then some (y3, σ) else bd (f_X12_behindIt σ (gi σ 10) v5) (fun v11 => lt (si σ 10 v11) (fun σ12 => ld (ga σ12 0) 173 (72 + v5) (fun v13 => lt (si σ12 11 ((gi σ12 11) + v13)) (fun σ14 => lt (y3 + 1) (fun v15 => LX12_wrongOf_19 y1 y2 K k σ14 v15))))))))
def f_X12_wrongOf (n : Nat) (σ : SC) (a1 : Int32) (a2 : Int32) : Option (Int32 × SC) := ld (ga σ 0) 173 168 (fun v1 => lt (si σ 10 v1) (fun σ2 => lt (si σ2 11 0) (fun σ3 => LX12_wrongOf_19 a1 a2 (fun σ16 => some ((-1), σ16)) n σ3 0)))
theorem mi_X12_wrongOf : MI yX12_wrongOf cX12_wrongOf 5 (some .int) 2 := ⟨im_X12_wrongOf, se_X12_wrongOf, in_X12, co_X12_wrongOf, by decide, by decide, by decide +kernel⟩
set_option maxRecDepth 100000 in
set_option maxHeartbeats 4000000 in
theorem ct_X12_wrongOf (l : Launch) (n : Nat) (G : EN) (A : Nat → Nat) (σ : SC) (sz : Nat) (a1 : Int32) (a2 : Int32) {r0 : Int32} {σ0 : SC} (h : f_X12_wrongOf n σ a1 a2 = some (r0, σ0)) : CT l yX12_wrongOf cX12_wrongOf 5 (some .int) rmX12_wrongOf G sz [.ref (A 0), .int a1, .int a2] (wM G A σ) (QI G (va_A (wM G A σ) sz) r0 (wM G A σ0)) := by
  unfold f_X12_wrongOf at h
  refine CI.intro (lv := [(0, .ref (A 0)), (1, .int a1), (2, .int a2)]) (by decide) (Nat.le_of_ble_eq_true rfl) rfl ?_
  intro p e s m args below meth c Q B S hret H locs ls hW hl
  have hx := S.1
  have hb := S.2.1
  refine lv_aload_n hx hb dX12_wrongOf_0 rfl (lv_at hl 0 rfl) ?_
  refine lv_aload_n hx hb dX12_wrongOf_1 rfl (lv_at hl 0 rfl) ?_
  refine gM_s S hW lk_X12_7 dX12_wrongOf_2 ?_
  refine lv_sipush (v := 168) hx hb dX12_wrongOf_5 (by decide) ?_
  refine aM_1 S hW h dX12_wrongOf_8 (fun v1 _ h => ?_)
  refine pM_stateBehind S hW lk_X12_247 dX12_wrongOf_9 (fun σ2 H locs eσ2 hW => ?_)
  have h := lt_at eσ2 h
  refine lv_aload_n hx hb dX12_wrongOf_12 rfl (lv_at hl 0 rfl) ?_
  refine lv_iconst (v := 0) hx hb dX12_wrongOf_13 (by decide) ?_
  refine pM_costsBehind S hW lk_X12_250 dX12_wrongOf_14 (fun σ3 H locs eσ3 hW => ?_)
  have h := lt_at eσ3 h
  refine lv_iconst (v := 0) hx hb dX12_wrongOf_17 (by decide) ?_
  refine lv_istore_n (lv' := [(3, .int 0), (0, .ref (A 0)), (1, .int a1), (2, .int a2)]) hx hb dX12_wrongOf_18 rfl hl (by decide) rfl (fun ls hl => ?_)
  have hL19 : ∀ (y1 : Int32) (y2 : Int32) (K : SC → Option (Int32 × SC)), (∀ (σ : SC) (H : Heap) (locs : List Loc) (ls : Array Slot), WS G B s (wM G A σ) H locs → lv_has ls 5 [] → K σ = some (r0, σ0) → W p l e rmX12_wrongOf s m args below meth c H locs 0 0 Q (F0 m 95 ls [])) → ∀ (k : Nat) (σ : SC) (y3 : Int32)  (H : Heap) (locs : List Loc) (ls : Array Slot), WS G B s (wM G A σ) H locs → lv_has ls 5 [(0, .ref (A 0)), (1, .int y1), (2, .int y2), (3, .int y3)] → LX12_wrongOf_19 y1 y2 K k σ y3 = some (r0, σ0) → W p l e rmX12_wrongOf s m args below meth c H locs 0 0 Q (F0 m 19 ls []) := by
    intro y1 y2 K hK k
    induction k with
    | zero => intro σ y3 H locs ls hW hl h; rw [LX12_wrongOf_19] at h; cases h
    | succ k ih =>
      intro σ y3 H locs ls hW hl h
      rw [LX12_wrongOf_19] at h
      refine lv_iload_n hx hb dX12_wrongOf_19 rfl (lv_at hl 3 rfl) ?_
      refine lv_iload_n hx hb dX12_wrongOf_20 rfl (lv_at hl 2 rfl) ?_
      refine bc_ge (tgt := 95) hx hb h dX12_wrongOf_21 (by decide) (fun _ h => ?_) (fun _ h => ?_)
      · exact hK σ _ _ _ hW (lv_sub hl [] rfl) h
      · refine lv_aload_n hx hb dX12_wrongOf_24 rfl (lv_at hl 0 rfl) ?_
        refine lv_iload_n hx hb dX12_wrongOf_25 rfl (lv_at hl 1 rfl) ?_
        refine lv_iload_n hx hb dX12_wrongOf_26 rfl (lv_at hl 3 rfl) ?_
        obtain ⟨v5, h4, h⟩ := bd_o h
        refine back_i (rest := []) hW (run_V S hW (ct_X12_told l G A σ _ y1 y3 h4) mi_X12_told lk_X12_253 (eM_0 G A σ) rfl rfl rfl hl (Nat.le_of_ble_eq_true rfl) dX12_wrongOf_27 ⟨Nat.le_of_ble_eq_true rfl, Nat.le_of_ble_eq_true rfl⟩ rfl rfl) (fun H locs hW => ?_)
        refine lv_istore (lv' := [(4, .int v5), (0, .ref (A 0)), (1, .int y1), (2, .int y2), (3, .int y3)]) hx hb dX12_wrongOf_30 hl (by decide) rfl (fun ls hl => ?_)
        refine lv_aload_n hx hb dX12_wrongOf_32 rfl (lv_at hl 1 rfl) ?_
        refine lv_iload hx hb dX12_wrongOf_33 (lv_at hl 0 rfl) ?_
        obtain ⟨v7, h6, h⟩ := bd_o h
        refine back_i (rest := []) hW (run_V S hW (ct_X12_isAction l G A σ _ v5 h6) mi_X12_isAction lk_X12_85 (eM_0 G A σ) rfl rfl rfl hl (Nat.le_of_ble_eq_true rfl) dX12_wrongOf_35 ⟨Nat.le_of_ble_eq_true rfl, Nat.le_of_ble_eq_true rfl⟩ rfl rfl) (fun H locs hW => ?_)
        refine bz_eq (tgt := 54) hx hb h dX12_wrongOf_38 (by decide) (fun _ h => ?_) (fun _ h => ?_)
        · refine lv_iload_n hx hb dX12_wrongOf_54 rfl (lv_at hl 4 rfl) ?_
          exact ret_is (wf := wM G A) hret h rfl hW dX12_wrongOf_55
        · refine lv_aload_n hx hb dX12_wrongOf_41 rfl (lv_at hl 1 rfl) ?_
          refine lv_aload_n hx hb dX12_wrongOf_42 rfl (lv_at hl 1 rfl) ?_
          refine gM_stateBehind S hW lk_X12_247 dX12_wrongOf_43 ?_
          refine lv_iload hx hb dX12_wrongOf_46 (lv_at hl 0 rfl) ?_
          obtain ⟨v9, h8, h⟩ := bd_o h
          refine back_i (rest := []) hW (run_V S hW (ct_X12_mayBe l G A σ _ (gi σ 10) v5 h8) mi_X12_mayBe lk_X12_165 (eM_0 G A σ) rfl rfl rfl hl (Nat.le_of_ble_eq_true rfl) dX12_wrongOf_48 ⟨Nat.le_of_ble_eq_true rfl, Nat.le_of_ble_eq_true rfl⟩ rfl rfl) (fun H locs hW => ?_)
          refine bz_ne (tgt := 56) hx hb h dX12_wrongOf_51 (by decide) (fun _ h => ?_) (fun _ h => ?_)
          · refine lv_iload_n hx hb dX12_wrongOf_54 rfl (lv_at hl 4 rfl) ?_
            exact ret_is (wf := wM G A) hret h rfl hW dX12_wrongOf_55
          · refine lv_aload_n hx hb dX12_wrongOf_56 rfl (lv_at hl 1 rfl) ?_
            refine lv_aload_n hx hb dX12_wrongOf_57 rfl (lv_at hl 1 rfl) ?_
            refine lv_aload_n hx hb dX12_wrongOf_58 rfl (lv_at hl 1 rfl) ?_
            refine gM_stateBehind S hW lk_X12_247 dX12_wrongOf_59 ?_
            refine lv_iload hx hb dX12_wrongOf_62 (lv_at hl 0 rfl) ?_
            obtain ⟨v11, h10, h⟩ := bd_o h
            refine back_i (rest := [.ref (A 0)]) hW (run_V S hW (ct_X12_behindIt l G A σ _ (gi σ 10) v5 h10) mi_X12_behindIt lk_X12_168 (eM_0 G A σ) rfl rfl rfl hl (Nat.le_of_ble_eq_true rfl) dX12_wrongOf_64 ⟨Nat.le_of_ble_eq_true rfl, Nat.le_of_ble_eq_true rfl⟩ rfl rfl) (fun H locs hW => ?_)
            refine pM_stateBehind S hW lk_X12_247 dX12_wrongOf_67 (fun σ12 H locs eσ12 hW => ?_)
            have h := lt_at eσ12 h
            refine lv_aload_n hx hb dX12_wrongOf_70 rfl (lv_at hl 1 rfl) ?_
            refine lv_dup hx hb dX12_wrongOf_71 rfl ?_
            refine gM_costsBehind S hW lk_X12_250 dX12_wrongOf_72 ?_
            refine lv_aload_n hx hb dX12_wrongOf_75 rfl (lv_at hl 1 rfl) ?_
            refine gM_s S hW lk_X12_7 dX12_wrongOf_76 ?_
            refine lv_bipush (v := 72) hx hb dX12_wrongOf_79 (by decide) ?_
            refine lv_iload hx hb dX12_wrongOf_81 (lv_at hl 0 rfl) ?_
            refine lv_iadd hx hb dX12_wrongOf_83 ?_
            refine aM_1 S hW h dX12_wrongOf_84 (fun v13 _ h => ?_)
            refine lv_iadd hx hb dX12_wrongOf_85 ?_
            refine pM_costsBehind S hW lk_X12_250 dX12_wrongOf_86 (fun σ14 H locs eσ14 hW => ?_)
            have h := lt_at eσ14 h
            refine w_iinc (lv' := [(4, .int v5), (0, .ref (A 0)), (1, .int y1), (2, .int y2)]) hx hb dX12_wrongOf_89 hl (k := 4) rfl (by decide) (by decide) rfl h (fun v15 ls hl h => ?_)
            refine lv_goto (tgt := 19) hx hb dX12_wrongOf_92 (by decide) ?_
            exact ih σ14 v15 _ _ _ hW (lv_sub hl [2, 3, 4, 0] rfl) h
  refine hL19 a1 a2 _ (fun σ16 H locs ls hW hl h => ?_) n σ3 0 _ _ _ hW (lv_sub hl [1, 2, 3, 0] rfl) h
  refine lv_iconst (v := (-1)) hx hb dX12_wrongOf_95 (by decide) ?_
  exact ret_is (wf := wM G A) hret h rfl hW dX12_wrongOf_96
def rmX12_judge : Room := { frames := 4, cells := 0, slots := 0, locals := 86 }
def f_X12_judge (n : Nat) (σ : SC) (a1 : Int32) (a2 : Int32) : Option (Int32 × SC) := bd (f_X12_wantedPlan σ a1 a2) (fun v2 => if v2 = 0 then bd2 (f_X12_wrongOf n σ a1 a2) (fun v5 σ4 => some (v5, σ4)) else bd2 (f_X12_refusedBelow σ v2) (fun v8 σ7 => some (v8, σ7)))
theorem mi_X12_judge : MI yX12_judge cX12_judge 4 (some .int) 2 := ⟨im_X12_judge, se_X12_judge, in_X12, co_X12_judge, by decide, by decide, by decide +kernel⟩
set_option maxRecDepth 100000 in
set_option maxHeartbeats 4000000 in
theorem ct_X12_judge (l : Launch) (n : Nat) (G : EN) (A : Nat → Nat) (σ : SC) (sz : Nat) (a1 : Int32) (a2 : Int32) {r0 : Int32} {σ0 : SC} (h : f_X12_judge n σ a1 a2 = some (r0, σ0)) : CT l yX12_judge cX12_judge 4 (some .int) rmX12_judge G sz [.ref (A 0), .int a1, .int a2] (wM G A σ) (QI G (va_A (wM G A σ) sz) r0 (wM G A σ0)) := by
  unfold f_X12_judge at h
  refine CI.intro (lv := [(0, .ref (A 0)), (1, .int a1), (2, .int a2)]) (by decide) (Nat.le_of_ble_eq_true rfl) rfl ?_
  intro p e s m args below meth c Q B S hret H locs ls hW hl
  have hx := S.1
  have hb := S.2.1
  refine lv_aload_n hx hb dX12_judge_0 rfl (lv_at hl 0 rfl) ?_
  refine lv_iload_n hx hb dX12_judge_1 rfl (lv_at hl 1 rfl) ?_
  refine lv_iload_n hx hb dX12_judge_2 rfl (lv_at hl 2 rfl) ?_
  obtain ⟨v2, h1, h⟩ := bd_o h
  refine back_i (rest := []) hW (run_V S hW (ct_X12_wantedPlan l G A σ _ a1 a2 h1) mi_X12_wantedPlan lk_X12_256 (eM_0 G A σ) rfl rfl rfl hl (Nat.le_of_ble_eq_true rfl) dX12_judge_3 ⟨Nat.le_of_ble_eq_true rfl, Nat.le_of_ble_eq_true rfl⟩ rfl rfl) (fun H locs hW => ?_)
  refine lv_istore_n (lv' := [(3, .int v2), (0, .ref (A 0)), (1, .int a1), (2, .int a2)]) hx hb dX12_judge_6 rfl hl (by decide) rfl (fun ls hl => ?_)
  refine lv_iload_n hx hb dX12_judge_7 rfl (lv_at hl 0 rfl) ?_
  refine bz_eq (tgt := 19) hx hb h dX12_judge_8 (by decide) (fun _ h => ?_) (fun _ h => ?_)
  · refine lv_aload_n hx hb dX12_judge_19 rfl (lv_at hl 1 rfl) ?_
    refine lv_iload_n hx hb dX12_judge_20 rfl (lv_at hl 2 rfl) ?_
    refine lv_iload_n hx hb dX12_judge_21 rfl (lv_at hl 3 rfl) ?_
    obtain ⟨v5, σ4, h3, h⟩ := bd2_o h
    refine back_i (rest := []) hW (run_V S hW (ct_X12_wrongOf l n G A σ _ a1 a2 h3) mi_X12_wrongOf lk_X12_259 (eM_0 G A σ) rfl rfl rfl hl (Nat.le_of_ble_eq_true rfl) dX12_judge_22 ⟨Nat.le_of_ble_eq_true rfl, Nat.le_of_ble_eq_true rfl⟩ rfl rfl) (fun H locs hW => ?_)
    exact ret_is (wf := wM G A) hret h rfl hW dX12_judge_25
  · refine lv_aload_n hx hb dX12_judge_11 rfl (lv_at hl 1 rfl) ?_
    refine lv_iload_n hx hb dX12_judge_12 rfl (lv_at hl 0 rfl) ?_
    obtain ⟨v8, σ7, h6, h⟩ := bd2_o h
    refine back_i (rest := []) hW (run_V S hW (ct_X12_refusedBelow l G A σ _ v2 h6) mi_X12_refusedBelow lk_X12_177 (eM_0 G A σ) rfl rfl rfl hl (Nat.le_of_ble_eq_true rfl) dX12_judge_13 ⟨Nat.le_of_ble_eq_true rfl, Nat.le_of_ble_eq_true rfl⟩ rfl rfl) (fun H locs hW => ?_)
    refine lv_goto (tgt := 25) hx hb dX12_judge_16 (by decide) ?_
    exact ret_is (wf := wM G A) hret h rfl hW dX12_judge_25
def rmX12_behind : Room := { frames := 4, cells := 0, slots := 0, locals := 86 }
def f_X12_behind (n : Nat) (σ : SC) (a1 : Int32) (a2 : Int32) (a3 : Int32) : Option (Int32 × SC) := bd (f_X12_wantedPlan σ a1 a2) (fun v2 => jn (fun (_ : Unit) => if (f_X12_in a3 0 3) = 0 then bd2 (f_X12_refused σ (-5)) (fun v17 σ16 => some (v17, σ16)) else if v2 = 0 then bd2 (f_X12_wrongOf n σ a1 a2) (fun v9 σ8 => if v9 = (-1) then ld (ga σ8 0) 173 169 (fun v10 => lt (v10 &&& ((gi σ8 10) ^^^ (-1))) (fun v11 => if a3 = 0 then some ((gi σ8 10), σ8) else if a3 = 1 then some ((gi σ8 11), σ8) else if a3 = 2 then if v11 = 0 then some (1, σ8) else some (0, σ8) else some (v11, σ8))) else bd2 (f_X12_refused σ8 (-6)) (fun v14 σ13 => some (v14, σ13))) else bd2 (f_X12_refused σ (-6)) (fun v6 σ5 => some (v6, σ5))) (fun J3 => if v2 = 0 then J3 () else if v2 = (-6) then J3 () else bd2 (f_X12_refused σ v2) (fun v20 σ19 => some (v20, σ19))))
theorem mi_X12_behind : MI yX12_behind cX12_behind 6 (some .int) 3 := ⟨im_X12_behind, se_X12_behind, in_X12, co_X12_behind, by decide, by decide, by decide +kernel⟩
set_option maxRecDepth 100000 in
set_option maxHeartbeats 4000000 in
theorem ct_X12_behind (l : Launch) (n : Nat) (G : EN) (A : Nat → Nat) (σ : SC) (sz : Nat) (a1 : Int32) (a2 : Int32) (a3 : Int32) {r0 : Int32} {σ0 : SC} (h : f_X12_behind n σ a1 a2 a3 = some (r0, σ0)) : CT l yX12_behind cX12_behind 6 (some .int) rmX12_behind G sz [.ref (A 0), .int a1, .int a2, .int a3] (wM G A σ) (QI G (va_A (wM G A σ) sz) r0 (wM G A σ0)) := by
  unfold f_X12_behind at h
  refine CI.intro (lv := [(0, .ref (A 0)), (1, .int a1), (2, .int a2), (3, .int a3)]) (by decide) (Nat.le_of_ble_eq_true rfl) rfl ?_
  intro p e s m args below meth c Q B S hret H locs ls hW hl
  have hx := S.1
  have hb := S.2.1
  refine lv_aload_n hx hb dX12_behind_0 rfl (lv_at hl 0 rfl) ?_
  refine lv_iload_n hx hb dX12_behind_1 rfl (lv_at hl 1 rfl) ?_
  refine lv_iload_n hx hb dX12_behind_2 rfl (lv_at hl 2 rfl) ?_
  obtain ⟨v2, h1, h⟩ := bd_o h
  refine back_i (rest := []) hW (run_V S hW (ct_X12_wantedPlan l G A σ _ a1 a2 h1) mi_X12_wantedPlan lk_X12_256 (eM_0 G A σ) rfl rfl rfl hl (Nat.le_of_ble_eq_true rfl) dX12_behind_3 ⟨Nat.le_of_ble_eq_true rfl, Nat.le_of_ble_eq_true rfl⟩ rfl rfl) (fun H locs hW => ?_)
  refine lv_istore (lv' := [(4, .int v2), (0, .ref (A 0)), (1, .int a1), (2, .int a2), (3, .int a3)]) hx hb dX12_behind_6 hl (by decide) rfl (fun ls hl => ?_)
  refine lv_iload hx hb dX12_behind_8 (lv_at hl 0 rfl) ?_
  obtain ⟨J3, eJ3, h⟩ := jn_o h
  have hJ3 : ∀   (H : Heap) (locs : List Loc) (ls : Array Slot), WS G B s (wM G A σ) H locs → lv_has ls 6 [(0, .ref (A 0)), (1, .int a1), (2, .int a2), (3, .int a3), (4, .int v2)] → J3 () = some (r0, σ0) → W p l e rmX12_behind s m args below meth c H locs 0 0 Q (F0 m 27 ls []) := by
    subst eJ3
    intro  H locs ls hW hl h
    refine lv_iload_n hx hb dX12_behind_27 rfl (lv_at hl 3 rfl) ?_
    refine lv_iconst (v := 0) hx hb dX12_behind_28 (by decide) ?_
    refine lv_iconst (v := 3) hx hb dX12_behind_29 (by decide) ?_
    refine back_i (rest := []) hW (run_S S hW (ct_X12_in l G A σ _ a3 0 3 rfl) ms_X12_in lk_X12_67 rfl rfl hl (Nat.le_of_ble_eq_true rfl) dX12_behind_30 ⟨Nat.le_of_ble_eq_true rfl, Nat.le_of_ble_eq_true rfl⟩ rfl rfl) (fun H locs hW => ?_)
    refine bz_ne (tgt := 43) hx hb h dX12_behind_33 (by decide) (fun _ h => ?_) (fun _ h => ?_)
    · refine lv_aload_n hx hb dX12_behind_36 rfl (lv_at hl 0 rfl) ?_
      refine lv_bipush (v := (-5)) hx hb dX12_behind_37 (by decide) ?_
      obtain ⟨v17, σ16, h15, h⟩ := bd2_o h
      refine back_i (rest := []) hW (run_V S hW (ct_X12_refused l G A σ _ (-5) h15) mi_X12_refused lk_X12_75 (eM_0 G A σ) rfl rfl rfl hl (Nat.le_of_ble_eq_true rfl) dX12_behind_39 ⟨Nat.le_of_ble_eq_true rfl, Nat.le_of_ble_eq_true rfl⟩ rfl rfl) (fun H locs hW => ?_)
      exact ret_is (wf := wM G A) hret h rfl hW dX12_behind_42
    · refine lv_iload hx hb dX12_behind_43 (lv_at hl 4 rfl) ?_
      refine bz_ne (tgt := 58) hx hb h dX12_behind_45 (by decide) (fun _ h => ?_) (fun _ h => ?_)
      · refine lv_aload_n hx hb dX12_behind_48 rfl (lv_at hl 0 rfl) ?_
        refine lv_iload_n hx hb dX12_behind_49 rfl (lv_at hl 1 rfl) ?_
        refine lv_iload_n hx hb dX12_behind_50 rfl (lv_at hl 2 rfl) ?_
        obtain ⟨v9, σ8, h7, h⟩ := bd2_o h
        refine back_i (rest := []) hW (run_V S hW (ct_X12_wrongOf l n G A σ _ a1 a2 h7) mi_X12_wrongOf lk_X12_259 (eM_0 G A σ) rfl rfl rfl hl (Nat.le_of_ble_eq_true rfl) dX12_behind_51 ⟨Nat.le_of_ble_eq_true rfl, Nat.le_of_ble_eq_true rfl⟩ rfl rfl) (fun H locs hW => ?_)
        refine lv_iconst (v := (-1)) hx hb dX12_behind_54 (by decide) ?_
        refine bc_eq (tgt := 65) hx hb h dX12_behind_55 (by decide) (fun _ h => ?_) (fun _ h => ?_)
        · refine lv_aload_n hx hb dX12_behind_65 rfl (lv_at hl 0 rfl) ?_
          refine gM_s S hW lk_X12_7 dX12_behind_66 ?_
          refine lv_sipush (v := 169) hx hb dX12_behind_69 (by decide) ?_
          refine aM_1 S hW h dX12_behind_72 (fun v10 _ h => ?_)
          refine lv_aload_n hx hb dX12_behind_73 rfl (lv_at hl 0 rfl) ?_
          refine gM_stateBehind S hW lk_X12_247 dX12_behind_74 ?_
          refine lv_iconst (v := (-1)) hx hb dX12_behind_77 (by decide) ?_
          refine lv_ixor hx hb dX12_behind_78 ?_
          refine lv_iand hx hb dX12_behind_79 ?_
          refine nm_i h (fun v11 h => ?_)
          refine lv_istore (lv' := [(5, .int v11), (0, .ref (A 0)), (1, .int a1), (2, .int a2), (3, .int a3), (4, .int v2)]) hx hb dX12_behind_80 hl (by decide) rfl (fun ls hl => ?_)
          refine lv_iload_n hx hb dX12_behind_82 rfl (lv_at hl 4 rfl) ?_
          refine bz_ne (tgt := 93) hx hb h dX12_behind_83 (by decide) (fun _ h => ?_) (fun _ h => ?_)
          · refine lv_aload_n hx hb dX12_behind_86 rfl (lv_at hl 1 rfl) ?_
            refine gM_stateBehind S hW lk_X12_247 dX12_behind_87 ?_
            refine lv_goto (tgt := 125) hx hb dX12_behind_90 (by decide) ?_
            exact ret_is (wf := wM G A) hret h rfl hW dX12_behind_125
          · refine lv_iload_n hx hb dX12_behind_93 rfl (lv_at hl 4 rfl) ?_
            refine lv_iconst (v := 1) hx hb dX12_behind_94 (by decide) ?_
            refine bc_ne (tgt := 105) hx hb h dX12_behind_95 (by decide) (fun _ h => ?_) (fun _ h => ?_)
            · refine lv_aload_n hx hb dX12_behind_98 rfl (lv_at hl 1 rfl) ?_
              refine gM_costsBehind S hW lk_X12_250 dX12_behind_99 ?_
              refine lv_goto (tgt := 125) hx hb dX12_behind_102 (by decide) ?_
              exact ret_is (wf := wM G A) hret h rfl hW dX12_behind_125
            · refine lv_iload_n hx hb dX12_behind_105 rfl (lv_at hl 4 rfl) ?_
              refine lv_iconst (v := 2) hx hb dX12_behind_106 (by decide) ?_
              refine bc_ne (tgt := 123) hx hb h dX12_behind_107 (by decide) (fun _ h => ?_) (fun _ h => ?_)
              · refine lv_iload hx hb dX12_behind_110 (lv_at hl 0 rfl) ?_
                refine bz_ne (tgt := 119) hx hb h dX12_behind_112 (by decide) (fun _ h => ?_) (fun _ h => ?_)
                · refine lv_iconst (v := 1) hx hb dX12_behind_115 (by decide) ?_
                  refine lv_goto (tgt := 125) hx hb dX12_behind_116 (by decide) ?_
                  exact ret_is (wf := wM G A) hret h rfl hW dX12_behind_125
                · refine lv_iconst (v := 0) hx hb dX12_behind_119 (by decide) ?_
                  refine lv_goto (tgt := 125) hx hb dX12_behind_120 (by decide) ?_
                  exact ret_is (wf := wM G A) hret h rfl hW dX12_behind_125
              · refine lv_iload hx hb dX12_behind_123 (lv_at hl 0 rfl) ?_
                exact ret_is (wf := wM G A) hret h rfl hW dX12_behind_125
        · refine lv_aload_n hx hb dX12_behind_58 rfl (lv_at hl 0 rfl) ?_
          refine lv_bipush (v := (-6)) hx hb dX12_behind_59 (by decide) ?_
          obtain ⟨v14, σ13, h12, h⟩ := bd2_o h
          refine back_i (rest := []) hW (run_V S hW (ct_X12_refused l G A σ8 _ (-6) h12) mi_X12_refused lk_X12_75 (eM_0 G A σ8) rfl rfl rfl hl (Nat.le_of_ble_eq_true rfl) dX12_behind_61 ⟨Nat.le_of_ble_eq_true rfl, Nat.le_of_ble_eq_true rfl⟩ rfl rfl) (fun H locs hW => ?_)
          exact ret_is (wf := wM G A) hret h rfl hW dX12_behind_64
      · refine lv_aload_n hx hb dX12_behind_58 rfl (lv_at hl 0 rfl) ?_
        refine lv_bipush (v := (-6)) hx hb dX12_behind_59 (by decide) ?_
        obtain ⟨v6, σ5, h4, h⟩ := bd2_o h
        refine back_i (rest := []) hW (run_V S hW (ct_X12_refused l G A σ _ (-6) h4) mi_X12_refused lk_X12_75 (eM_0 G A σ) rfl rfl rfl hl (Nat.le_of_ble_eq_true rfl) dX12_behind_61 ⟨Nat.le_of_ble_eq_true rfl, Nat.le_of_ble_eq_true rfl⟩ rfl rfl) (fun H locs hW => ?_)
        exact ret_is (wf := wM G A) hret h rfl hW dX12_behind_64
  clear eJ3
  refine bz_eq (tgt := 27) hx hb h dX12_behind_10 (by decide) (fun _ h => ?_) (fun _ h => ?_)
  · exact hJ3  _ _ _ hW (lv_sub hl [1, 2, 3, 4, 0] rfl) h
  · refine lv_iload hx hb dX12_behind_13 (lv_at hl 0 rfl) ?_
    refine lv_bipush (v := (-6)) hx hb dX12_behind_15 (by decide) ?_
    refine bc_eq (tgt := 27) hx hb h dX12_behind_17 (by decide) (fun _ h => ?_) (fun _ h => ?_)
    · exact hJ3  _ _ _ hW (lv_sub hl [1, 2, 3, 4, 0] rfl) h
    · refine lv_aload_n hx hb dX12_behind_20 rfl (lv_at hl 1 rfl) ?_
      refine lv_iload hx hb dX12_behind_21 (lv_at hl 0 rfl) ?_
      obtain ⟨v20, σ19, h18, h⟩ := bd2_o h
      refine back_i (rest := []) hW (run_V S hW (ct_X12_refused l G A σ _ v2 h18) mi_X12_refused lk_X12_75 (eM_0 G A σ) rfl rfl rfl hl (Nat.le_of_ble_eq_true rfl) dX12_behind_23 ⟨Nat.le_of_ble_eq_true rfl, Nat.le_of_ble_eq_true rfl⟩ rfl rfl) (fun H locs hW => ?_)
      exact ret_is (wf := wM G A) hret h rfl hW dX12_behind_26
def rmX12_pairs : Room := { frames := 1, cells := 0, slots := 0, locals := 22 }
def LX12_pairs_6 (σ : SC) (y1 : Int32) (y2 : Int32) (y3 : Int32) (K : Int32 → Option Int32) : Nat → Int32 → Int32 → Option Int32
  | 0, _, _ => none
  | k + 1, y4, y5 => if y2 ≤ (y5 + 1) then K y4 else bd (f_X12_told σ y1 y5) (fun v2 => bd (f_X12_told σ y1 (y5 + 1)) (fun v4 => if ((100 * v2) + v4) = y3 then lt (y4 + 1) (fun v7 => lt (y5 + 1) (fun v8 => LX12_pairs_6 σ y1 y2 y3 K k v7 v8)) else lt (y4 + 0) (fun v5 => lt (y5 + 1) (fun v6 => LX12_pairs_6 σ y1 y2 y3 K k v5 v6))))
def f_X12_pairs (n : Nat) (σ : SC) (a1 : Int32) (a2 : Int32) (a3 : Int32) : Option Int32 := LX12_pairs_6 σ a1 a2 a3 (fun w9 => some w9) n 0 0
theorem mi_X12_pairs : MI yX12_pairs cX12_pairs 6 (some .int) 3 := ⟨im_X12_pairs, se_X12_pairs, in_X12, co_X12_pairs, by decide, by decide, by decide +kernel⟩
set_option maxRecDepth 100000 in
set_option maxHeartbeats 4000000 in
theorem ct_X12_pairs (l : Launch) (n : Nat) (G : EN) (A : Nat → Nat) (σ : SC) (sz : Nat) (a1 : Int32) (a2 : Int32) (a3 : Int32) {r0 : Int32} (h : f_X12_pairs n σ a1 a2 a3 = some r0) : CT l yX12_pairs cX12_pairs 6 (some .int) rmX12_pairs G sz [.ref (A 0), .int a1, .int a2, .int a3] (wM G A σ) (QI G (va_A (wM G A σ) sz) r0 (wM G A σ)) := by
  unfold f_X12_pairs at h
  refine CI.intro (lv := [(0, .ref (A 0)), (1, .int a1), (2, .int a2), (3, .int a3)]) (by decide) (Nat.le_of_ble_eq_true rfl) rfl ?_
  intro p e s m args below meth c Q B S hret H locs ls hW hl
  have hx := S.1
  have hb := S.2.1
  refine lv_iconst (v := 0) hx hb dX12_pairs_0 (by decide) ?_
  refine lv_istore (lv' := [(4, .int 0), (0, .ref (A 0)), (1, .int a1), (2, .int a2), (3, .int a3)]) hx hb dX12_pairs_1 hl (by decide) rfl (fun ls hl => ?_)
  refine lv_iconst (v := 0) hx hb dX12_pairs_3 (by decide) ?_
  refine lv_istore (lv' := [(5, .int 0), (4, .int 0), (0, .ref (A 0)), (1, .int a1), (2, .int a2), (3, .int a3)]) hx hb dX12_pairs_4 hl (by decide) rfl (fun ls hl => ?_)
  have hL6 : ∀ (y1 : Int32) (y2 : Int32) (y3 : Int32) (K : Int32 → Option Int32), (∀ (z4 : Int32) (H : Heap) (locs : List Loc) (ls : Array Slot), WS G B s (wM G A σ) H locs → lv_has ls 6 [(4, .int z4)] → K z4 = some r0 → W p l e rmX12_pairs s m args below meth c H locs 0 0 Q (F0 m 54 ls [])) → ∀ (k : Nat)  (y4 : Int32) (y5 : Int32)  (H : Heap) (locs : List Loc) (ls : Array Slot), WS G B s (wM G A σ) H locs → lv_has ls 6 [(0, .ref (A 0)), (1, .int y1), (2, .int y2), (3, .int y3), (4, .int y4), (5, .int y5)] → LX12_pairs_6 σ y1 y2 y3 K k y4 y5 = some r0 → W p l e rmX12_pairs s m args below meth c H locs 0 0 Q (F0 m 6 ls []) := by
    intro y1 y2 y3 K hK k
    induction k with
    | zero => intro y4 y5 H locs ls hW hl h; rw [LX12_pairs_6] at h; cases h
    | succ k ih =>
      intro y4 y5 H locs ls hW hl h
      rw [LX12_pairs_6] at h
      refine lv_iload hx hb dX12_pairs_6 (lv_at hl 5 rfl) ?_
      refine lv_iconst (v := 1) hx hb dX12_pairs_8 (by decide) ?_
      refine lv_iadd hx hb dX12_pairs_9 ?_
      refine lv_iload_n hx hb dX12_pairs_10 rfl (lv_at hl 2 rfl) ?_
      refine bc_ge (tgt := 54) hx hb h dX12_pairs_11 (by decide) (fun _ h => ?_) (fun _ h => ?_)
      · exact hK y4 _ _ _ hW (lv_sub hl [4] rfl) h
      · refine lv_iload hx hb dX12_pairs_14 (lv_at hl 4 rfl) ?_
        refine lv_bipush (v := 100) hx hb dX12_pairs_16 (by decide) ?_
        refine lv_aload_n hx hb dX12_pairs_18 rfl (lv_at hl 0 rfl) ?_
        refine lv_iload_n hx hb dX12_pairs_19 rfl (lv_at hl 1 rfl) ?_
        refine lv_iload hx hb dX12_pairs_20 (lv_at hl 5 rfl) ?_
        obtain ⟨v2, h1, h⟩ := bd_o h
        refine back_i (rest := [.int 100, .int y4]) hW (run_V S hW (ct_X12_told l G A σ _ y1 y5 h1) mi_X12_told lk_X12_253 (eM_0 G A σ) rfl rfl rfl hl (Nat.le_of_ble_eq_true rfl) dX12_pairs_22 ⟨Nat.le_of_ble_eq_true rfl, Nat.le_of_ble_eq_true rfl⟩ rfl rfl) (fun H locs hW => ?_)
        refine lv_imul hx hb dX12_pairs_25 ?_
        refine lv_aload_n hx hb dX12_pairs_26 rfl (lv_at hl 0 rfl) ?_
        refine lv_iload_n hx hb dX12_pairs_27 rfl (lv_at hl 1 rfl) ?_
        refine lv_iload hx hb dX12_pairs_28 (lv_at hl 5 rfl) ?_
        refine lv_iconst (v := 1) hx hb dX12_pairs_30 (by decide) ?_
        refine lv_iadd hx hb dX12_pairs_31 ?_
        obtain ⟨v4, h3, h⟩ := bd_o h
        refine back_i (rest := [.int (100 * v2), .int y4]) hW (run_V S hW (ct_X12_told l G A σ _ y1 (y5 + 1) h3) mi_X12_told lk_X12_253 (eM_0 G A σ) rfl rfl rfl hl (Nat.le_of_ble_eq_true rfl) dX12_pairs_32 ⟨Nat.le_of_ble_eq_true rfl, Nat.le_of_ble_eq_true rfl⟩ rfl rfl) (fun H locs hW => ?_)
        refine lv_iadd hx hb dX12_pairs_35 ?_
        refine lv_iload_n hx hb dX12_pairs_36 rfl (lv_at hl 3 rfl) ?_
        refine bc_ne (tgt := 44) hx hb h dX12_pairs_37 (by decide) (fun _ h => ?_) (fun _ h => ?_)
        · refine lv_iconst (v := 1) hx hb dX12_pairs_40 (by decide) ?_
          refine lv_goto (tgt := 45) hx hb dX12_pairs_41 (by decide) ?_
          refine lv_iadd hx hb dX12_pairs_45 ?_
          refine nm_i h (fun v7 h => ?_)
          refine lv_istore (lv' := [(4, .int v7), (0, .ref (A 0)), (1, .int y1), (2, .int y2), (3, .int y3), (5, .int y5)]) hx hb dX12_pairs_46 hl (by decide) rfl (fun ls hl => ?_)
          refine w_iinc (lv' := [(4, .int v7), (0, .ref (A 0)), (1, .int y1), (2, .int y2), (3, .int y3)]) hx hb dX12_pairs_48 hl (k := 5) rfl (by decide) (by decide) rfl h (fun v8 ls hl h => ?_)
          refine lv_goto (tgt := 6) hx hb dX12_pairs_51 (by decide) ?_
          exact ih v7 v8 _ _ _ hW (lv_sub hl [2, 3, 4, 5, 1, 0] rfl) h
        · refine lv_iconst (v := 0) hx hb dX12_pairs_44 (by decide) ?_
          refine lv_iadd hx hb dX12_pairs_45 ?_
          refine nm_i h (fun v5 h => ?_)
          refine lv_istore (lv' := [(4, .int v5), (0, .ref (A 0)), (1, .int y1), (2, .int y2), (3, .int y3), (5, .int y5)]) hx hb dX12_pairs_46 hl (by decide) rfl (fun ls hl => ?_)
          refine w_iinc (lv' := [(4, .int v5), (0, .ref (A 0)), (1, .int y1), (2, .int y2), (3, .int y3)]) hx hb dX12_pairs_48 hl (k := 5) rfl (by decide) (by decide) rfl h (fun v6 ls hl h => ?_)
          refine lv_goto (tgt := 6) hx hb dX12_pairs_51 (by decide) ?_
          exact ih v5 v6 _ _ _ hW (lv_sub hl [2, 3, 4, 5, 1, 0] rfl) h
  refine hL6 a1 a2 a3 _ (fun w9 H locs ls hW hl h => ?_) n 0 0 _ _ _ hW (lv_sub hl [2, 3, 4, 5, 1, 0] rfl) h
  refine lv_iload hx hb dX12_pairs_54 (lv_at hl 0 rfl) ?_
  exact hret H locs _ ls _ (Option.some.inj h) rfl hW dX12_pairs_56
def rmX12_mostPair : Room := { frames := 4, cells := 0, slots := 0, locals := 86 }
def LX12_mostPair_49 (σ : SC) (y1 : Int32) (y2 : Int32) (K : Int32 → Option (Int32 × SC)) : Nat → Int32 → Int32 → Option (Int32 × SC)
  | 0, _, _ => none
  | k + 1, y4, y5 => if y2 ≤ y5 then K y4 else if y4 = 0 then K y4 else bd (f_X12_told σ y1 y5) (fun v7 => bd (f_X12_isAction σ v7) (fun v9 => lt (y5 + 1) (fun v10 => LX12_mostPair_49 σ y1 y2 K k v9 v10)))
def LX12_mostPair_97 (n : Nat) (σ : SC) (y1 : Int32) (y2 : Int32) (K : Int32 → Option (Int32 × SC)) : Nat → Int32 → Int32 → Option (Int32 × SC)
  | 0, _, _ => none
  | k + 1, y5, y6 => if y2 ≤ (y6 + 1) then K y5 else bd (f_X12_told σ y1 y6) (fun v13 => bd (f_X12_told σ y1 (y6 + 1)) (fun v15 => lt ((100 * v13) + v15) (fun v16 => bd (f_X12_pairs n σ y1 y2 v16) (fun v18 => jn (fun (u20 : Int32) => if u20 < v18 then lt (y6 + 1) (fun v21 => LX12_mostPair_97 n σ y1 y2 K k v16 v21) else if v18 = u20 then if y5 ≤ v16 then lt (y6 + 1) (fun v23 => LX12_mostPair_97 n σ y1 y2 K k y5 v23) else lt (y6 + 1) (fun v24 => LX12_mostPair_97 n σ y1 y2 K k v16 v24) else lt (y6 + 1) (fun v22 => LX12_mostPair_97 n σ y1 y2 K k y5 v22)) (fun J19 => if y5 = (-1) then J19 0 else bd (f_X12_pairs n σ y1 y2 y5) (fun v26 => J19 v26))))))
def f_X12_mostPair (n : Nat) (σ : SC) (a1 : Int32) (a2 : Int32) : Option (Int32 × SC) := bd (f_X12_wantedPlan σ a1 a2) (fun v2 => jn (fun (_ : Unit) => if 2 ≤ a2 then jn (fun (u5 : Int32) => LX12_mostPair_49 σ a1 a2 (fun w11 => if w11 = 0 then bd2 (f_X12_refused σ (-6)) (fun v30 σ29 => some (v30, σ29)) else LX12_mostPair_97 n σ a1 a2 (fun w27 => some (w27, σ)) n (-1) 0) n u5 0) (fun J4 => if v2 = 0 then J4 1 else J4 0) else bd2 (f_X12_refused σ (-5)) (fun v33 σ32 => some (v33, σ32))) (fun J3 => if v2 = 0 then J3 () else if v2 = (-6) then J3 () else bd2 (f_X12_refused σ v2) (fun v36 σ35 => some (v36, σ35))))
theorem mi_X12_mostPair : MI yX12_mostPair cX12_mostPair 10 (some .int) 2 := ⟨im_X12_mostPair, se_X12_mostPair, in_X12, co_X12_mostPair, by decide, by decide, by decide +kernel⟩
set_option maxRecDepth 100000 in
set_option maxHeartbeats 4000000 in
theorem ct_X12_mostPair (l : Launch) (n : Nat) (G : EN) (A : Nat → Nat) (σ : SC) (sz : Nat) (a1 : Int32) (a2 : Int32) {r0 : Int32} {σ0 : SC} (h : f_X12_mostPair n σ a1 a2 = some (r0, σ0)) : CT l yX12_mostPair cX12_mostPair 10 (some .int) rmX12_mostPair G sz [.ref (A 0), .int a1, .int a2] (wM G A σ) (QI G (va_A (wM G A σ) sz) r0 (wM G A σ0)) := by
  unfold f_X12_mostPair at h
  refine CI.intro (lv := [(0, .ref (A 0)), (1, .int a1), (2, .int a2)]) (by decide) (Nat.le_of_ble_eq_true rfl) rfl ?_
  intro p e s m args below meth c Q B S hret H locs ls hW hl
  have hx := S.1
  have hb := S.2.1
  refine lv_aload_n hx hb dX12_mostPair_0 rfl (lv_at hl 0 rfl) ?_
  refine lv_iload_n hx hb dX12_mostPair_1 rfl (lv_at hl 1 rfl) ?_
  refine lv_iload_n hx hb dX12_mostPair_2 rfl (lv_at hl 2 rfl) ?_
  obtain ⟨v2, h1, h⟩ := bd_o h
  refine back_i (rest := []) hW (run_V S hW (ct_X12_wantedPlan l G A σ _ a1 a2 h1) mi_X12_wantedPlan lk_X12_256 (eM_0 G A σ) rfl rfl rfl hl (Nat.le_of_ble_eq_true rfl) dX12_mostPair_3 ⟨Nat.le_of_ble_eq_true rfl, Nat.le_of_ble_eq_true rfl⟩ rfl rfl) (fun H locs hW => ?_)
  refine lv_istore_n (lv' := [(3, .int v2), (0, .ref (A 0)), (1, .int a1), (2, .int a2)]) hx hb dX12_mostPair_6 rfl hl (by decide) rfl (fun ls hl => ?_)
  refine lv_iload_n hx hb dX12_mostPair_7 rfl (lv_at hl 0 rfl) ?_
  obtain ⟨J3, eJ3, h⟩ := jn_o h
  have hJ3 : ∀   (H : Heap) (locs : List Loc) (ls : Array Slot), WS G B s (wM G A σ) H locs → lv_has ls 10 [(0, .ref (A 0)), (1, .int a1), (2, .int a2), (3, .int v2)] → J3 () = some (r0, σ0) → W p l e rmX12_mostPair s m args below meth c H locs 0 0 Q (F0 m 23 ls []) := by
    subst eJ3
    intro  H locs ls hW hl h
    refine lv_iload_n hx hb dX12_mostPair_23 rfl (lv_at hl 2 rfl) ?_
    refine lv_iconst (v := 2) hx hb dX12_mostPair_24 (by decide) ?_
    refine bc_ge (tgt := 35) hx hb h dX12_mostPair_25 (by decide) (fun _ h => ?_) (fun _ h => ?_)
    · refine lv_iload_n hx hb dX12_mostPair_35 rfl (lv_at hl 3 rfl) ?_
      obtain ⟨J4, eJ4, h⟩ := jn_o h
      have hJ4 : ∀ (u5 : Int32)  (H : Heap) (locs : List Loc) (ls : Array Slot), WS G B s (wM G A σ) H locs → lv_has ls 10 [(0, .ref (A 0)), (1, .int a1), (2, .int a2)] → J4 u5 = some (r0, σ0) → W p l e rmX12_mostPair s m args below meth c H locs 0 0 Q (F0 m 44 ls [.int u5]) := by
        subst eJ4
        intro u5 H locs ls hW hl h
        refine lv_istore (lv' := [(4, .int u5), (0, .ref (A 0)), (1, .int a1), (2, .int a2)]) hx hb dX12_mostPair_44 hl (by decide) rfl (fun ls hl => ?_)
        refine lv_iconst (v := 0) hx hb dX12_mostPair_46 (by decide) ?_
        refine lv_istore (lv' := [(5, .int 0), (4, .int u5), (0, .ref (A 0)), (1, .int a1), (2, .int a2)]) hx hb dX12_mostPair_47 hl (by decide) rfl (fun ls hl => ?_)
        have hL49 : ∀ (y1 : Int32) (y2 : Int32) (σ : SC) (K : Int32 → Option (Int32 × SC)), (∀ (z4 : Int32) (H : Heap) (locs : List Loc) (ls : Array Slot), WS G B s (wM G A σ) H locs → lv_has ls 10 [(0, .ref (A 0)), (1, .int y1), (2, .int y2), (4, .int z4)] → K z4 = some (r0, σ0) → W p l e rmX12_mostPair s m args below meth c H locs 0 0 Q (F0 m 79 ls [])) → ∀ (k : Nat)  (y4 : Int32) (y5 : Int32)  (H : Heap) (locs : List Loc) (ls : Array Slot), WS G B s (wM G A σ) H locs → lv_has ls 10 [(0, .ref (A 0)), (1, .int y1), (2, .int y2), (4, .int y4), (5, .int y5)] → LX12_mostPair_49 σ y1 y2 K k y4 y5 = some (r0, σ0) → W p l e rmX12_mostPair s m args below meth c H locs 0 0 Q (F0 m 49 ls []) := by
          intro y1 y2 σ K hK k
          induction k with
          | zero => intro y4 y5 H locs ls hW hl h; rw [LX12_mostPair_49] at h; cases h
          | succ k ih =>
            intro y4 y5 H locs ls hW hl h
            rw [LX12_mostPair_49] at h
            refine lv_iload hx hb dX12_mostPair_49 (lv_at hl 4 rfl) ?_
            refine lv_iload_n hx hb dX12_mostPair_51 rfl (lv_at hl 2 rfl) ?_
            refine bc_ge (tgt := 79) hx hb h dX12_mostPair_52 (by decide) (fun _ h => ?_) (fun _ h => ?_)
            · exact hK y4 _ _ _ hW (lv_sub hl [0, 1, 2, 3] rfl) h
            · refine lv_iload hx hb dX12_mostPair_55 (lv_at hl 3 rfl) ?_
              refine bz_eq (tgt := 79) hx hb h dX12_mostPair_57 (by decide) (fun _ h => ?_) (fun _ h => ?_)
              · exact hK y4 _ _ _ hW (lv_sub hl [0, 1, 2, 3] rfl) h
              · refine lv_aload_n hx hb dX12_mostPair_60 rfl (lv_at hl 0 rfl) ?_
                refine lv_aload_n hx hb dX12_mostPair_61 rfl (lv_at hl 0 rfl) ?_
                refine lv_iload_n hx hb dX12_mostPair_62 rfl (lv_at hl 1 rfl) ?_
                refine lv_iload hx hb dX12_mostPair_63 (lv_at hl 4 rfl) ?_
                obtain ⟨v7, h6, h⟩ := bd_o h
                refine back_i (rest := [.ref (A 0)]) hW (run_V S hW (ct_X12_told l G A σ _ y1 y5 h6) mi_X12_told lk_X12_253 (eM_0 G A σ) rfl rfl rfl hl (Nat.le_of_ble_eq_true rfl) dX12_mostPair_65 ⟨Nat.le_of_ble_eq_true rfl, Nat.le_of_ble_eq_true rfl⟩ rfl rfl) (fun H locs hW => ?_)
                obtain ⟨v9, h8, h⟩ := bd_o h
                refine back_i (rest := []) hW (run_V S hW (ct_X12_isAction l G A σ _ v7 h8) mi_X12_isAction lk_X12_85 (eM_0 G A σ) rfl rfl rfl hl (Nat.le_of_ble_eq_true rfl) dX12_mostPair_68 ⟨Nat.le_of_ble_eq_true rfl, Nat.le_of_ble_eq_true rfl⟩ rfl rfl) (fun H locs hW => ?_)
                refine lv_istore (lv' := [(4, .int v9), (0, .ref (A 0)), (1, .int y1), (2, .int y2), (5, .int y5)]) hx hb dX12_mostPair_71 hl (by decide) rfl (fun ls hl => ?_)
                refine w_iinc (lv' := [(4, .int v9), (0, .ref (A 0)), (1, .int y1), (2, .int y2)]) hx hb dX12_mostPair_73 hl (k := 4) rfl (by decide) (by decide) rfl h (fun v10 ls hl h => ?_)
                refine lv_goto (tgt := 49) hx hb dX12_mostPair_76 (by decide) ?_
                exact ih v9 v10 _ _ _ hW (lv_sub hl [2, 3, 4, 1, 0] rfl) h
        refine hL49 a1 a2 σ _ (fun w11 H locs ls hW hl h => ?_) n u5 0 _ _ _ hW (lv_sub hl [2, 3, 4, 1, 0] rfl) h
        refine lv_iload hx hb dX12_mostPair_79 (lv_at hl 3 rfl) ?_
        refine bz_ne (tgt := 91) hx hb h dX12_mostPair_81 (by decide) (fun _ h => ?_) (fun _ h => ?_)
        · refine lv_aload_n hx hb dX12_mostPair_84 rfl (lv_at hl 0 rfl) ?_
          refine lv_bipush (v := (-6)) hx hb dX12_mostPair_85 (by decide) ?_
          obtain ⟨v30, σ29, h28, h⟩ := bd2_o h
          refine back_i (rest := []) hW (run_V S hW (ct_X12_refused l G A σ _ (-6) h28) mi_X12_refused lk_X12_75 (eM_0 G A σ) rfl rfl rfl hl (Nat.le_of_ble_eq_true rfl) dX12_mostPair_87 ⟨Nat.le_of_ble_eq_true rfl, Nat.le_of_ble_eq_true rfl⟩ rfl rfl) (fun H locs hW => ?_)
          exact ret_is (wf := wM G A) hret h rfl hW dX12_mostPair_90
        · refine lv_iconst (v := (-1)) hx hb dX12_mostPair_91 (by decide) ?_
          refine lv_istore (lv' := [(5, .int (-1)), (0, .ref (A 0)), (1, .int a1), (2, .int a2), (4, .int w11)]) hx hb dX12_mostPair_92 hl (by decide) rfl (fun ls hl => ?_)
          refine lv_iconst (v := 0) hx hb dX12_mostPair_94 (by decide) ?_
          refine lv_istore (lv' := [(6, .int 0), (5, .int (-1)), (0, .ref (A 0)), (1, .int a1), (2, .int a2), (4, .int w11)]) hx hb dX12_mostPair_95 hl (by decide) rfl (fun ls hl => ?_)
          have hL97 : ∀ (y1 : Int32) (y2 : Int32) (σ : SC) (K : Int32 → Option (Int32 × SC)), (∀ (z5 : Int32) (H : Heap) (locs : List Loc) (ls : Array Slot), WS G B s (wM G A σ) H locs → lv_has ls 10 [(5, .int z5)] → K z5 = some (r0, σ0) → W p l e rmX12_mostPair s m args below meth c H locs 0 0 Q (F0 m 193 ls [])) → ∀ (k : Nat)  (y5 : Int32) (y6 : Int32)  (H : Heap) (locs : List Loc) (ls : Array Slot), WS G B s (wM G A σ) H locs → lv_has ls 10 [(0, .ref (A 0)), (1, .int y1), (2, .int y2), (5, .int y5), (6, .int y6)] → LX12_mostPair_97 n σ y1 y2 K k y5 y6 = some (r0, σ0) → W p l e rmX12_mostPair s m args below meth c H locs 0 0 Q (F0 m 97 ls []) := by
            intro y1 y2 σ K hK k
            induction k with
            | zero => intro y5 y6 H locs ls hW hl h; rw [LX12_mostPair_97] at h; cases h
            | succ k ih =>
              intro y5 y6 H locs ls hW hl h
              rw [LX12_mostPair_97] at h
              refine lv_iload hx hb dX12_mostPair_97 (lv_at hl 4 rfl) ?_
              refine lv_iconst (v := 1) hx hb dX12_mostPair_99 (by decide) ?_
              refine lv_iadd hx hb dX12_mostPair_100 ?_
              refine lv_iload_n hx hb dX12_mostPair_101 rfl (lv_at hl 2 rfl) ?_
              refine bc_ge (tgt := 193) hx hb h dX12_mostPair_102 (by decide) (fun _ h => ?_) (fun _ h => ?_)
              · exact hK y5 _ _ _ hW (lv_sub hl [3] rfl) h
              · refine lv_bipush (v := 100) hx hb dX12_mostPair_105 (by decide) ?_
                refine lv_aload_n hx hb dX12_mostPair_107 rfl (lv_at hl 0 rfl) ?_
                refine lv_iload_n hx hb dX12_mostPair_108 rfl (lv_at hl 1 rfl) ?_
                refine lv_iload hx hb dX12_mostPair_109 (lv_at hl 4 rfl) ?_
                obtain ⟨v13, h12, h⟩ := bd_o h
                refine back_i (rest := [.int 100]) hW (run_V S hW (ct_X12_told l G A σ _ y1 y6 h12) mi_X12_told lk_X12_253 (eM_0 G A σ) rfl rfl rfl hl (Nat.le_of_ble_eq_true rfl) dX12_mostPair_111 ⟨Nat.le_of_ble_eq_true rfl, Nat.le_of_ble_eq_true rfl⟩ rfl rfl) (fun H locs hW => ?_)
                refine lv_imul hx hb dX12_mostPair_114 ?_
                refine lv_aload_n hx hb dX12_mostPair_115 rfl (lv_at hl 0 rfl) ?_
                refine lv_iload_n hx hb dX12_mostPair_116 rfl (lv_at hl 1 rfl) ?_
                refine lv_iload hx hb dX12_mostPair_117 (lv_at hl 4 rfl) ?_
                refine lv_iconst (v := 1) hx hb dX12_mostPair_119 (by decide) ?_
                refine lv_iadd hx hb dX12_mostPair_120 ?_
                obtain ⟨v15, h14, h⟩ := bd_o h
                refine back_i (rest := [.int (100 * v13)]) hW (run_V S hW (ct_X12_told l G A σ _ y1 (y6 + 1) h14) mi_X12_told lk_X12_253 (eM_0 G A σ) rfl rfl rfl hl (Nat.le_of_ble_eq_true rfl) dX12_mostPair_121 ⟨Nat.le_of_ble_eq_true rfl, Nat.le_of_ble_eq_true rfl⟩ rfl rfl) (fun H locs hW => ?_)
                refine lv_iadd hx hb dX12_mostPair_124 ?_
                refine nm_i h (fun v16 h => ?_)
                refine lv_istore (lv' := [(7, .int v16), (0, .ref (A 0)), (1, .int y1), (2, .int y2), (5, .int y5), (6, .int y6)]) hx hb dX12_mostPair_125 hl (by decide) rfl (fun ls hl => ?_)
                refine lv_aload_n hx hb dX12_mostPair_127 rfl (lv_at hl 1 rfl) ?_
                refine lv_iload_n hx hb dX12_mostPair_128 rfl (lv_at hl 2 rfl) ?_
                refine lv_iload_n hx hb dX12_mostPair_129 rfl (lv_at hl 3 rfl) ?_
                refine lv_iload hx hb dX12_mostPair_130 (lv_at hl 0 rfl) ?_
                obtain ⟨v18, h17, h⟩ := bd_o h
                refine back_i (rest := []) hW (run_V S hW (ct_X12_pairs l n G A σ _ y1 y2 v16 h17) mi_X12_pairs lk_X12_262 (eM_0 G A σ) rfl rfl rfl hl (Nat.le_of_ble_eq_true rfl) dX12_mostPair_132 ⟨Nat.le_of_ble_eq_true rfl, Nat.le_of_ble_eq_true rfl⟩ rfl rfl) (fun H locs hW => ?_)
                refine lv_istore (lv' := [(8, .int v18), (7, .int v16), (0, .ref (A 0)), (1, .int y1), (2, .int y2), (5, .int y5), (6, .int y6)]) hx hb dX12_mostPair_135 hl (by decide) rfl (fun ls hl => ?_)
                refine lv_iload hx hb dX12_mostPair_137 (lv_at hl 5 rfl) ?_
                refine lv_iconst (v := (-1)) hx hb dX12_mostPair_139 (by decide) ?_
                obtain ⟨J19, eJ19, h⟩ := jn_o h
                have hJ19 : ∀ (u20 : Int32)  (H : Heap) (locs : List Loc) (ls : Array Slot), WS G B s (wM G A σ) H locs → lv_has ls 10 [(0, .ref (A 0)), (1, .int y1), (2, .int y2), (5, .int y5), (6, .int y6), (7, .int v16), (8, .int v18)] → J19 u20 = some (r0, σ0) → W p l e rmX12_mostPair s m args below meth c H locs 0 0 Q (F0 m 155 ls [.int u20]) := by
                  subst eJ19
                  intro u20 H locs ls hW hl h
                  refine lv_istore (lv' := [(9, .int u20), (0, .ref (A 0)), (1, .int y1), (2, .int y2), (5, .int y5), (6, .int y6), (7, .int v16), (8, .int v18)]) hx hb dX12_mostPair_155 hl (by decide) rfl (fun ls hl => ?_)
                  refine lv_iload hx hb dX12_mostPair_157 (lv_at hl 7 rfl) ?_
                  refine lv_iload hx hb dX12_mostPair_159 (lv_at hl 0 rfl) ?_
                  refine bc_gt (tgt := 178) hx hb h dX12_mostPair_161 (by decide) (fun _ h => ?_) (fun _ h => ?_)
                  · refine lv_iload hx hb dX12_mostPair_178 (lv_at hl 6 rfl) ?_
                    refine lv_goto (tgt := 185) hx hb dX12_mostPair_180 (by decide) ?_
                    refine lv_istore (lv' := [(5, .int v16), (9, .int u20), (0, .ref (A 0)), (1, .int y1), (2, .int y2), (6, .int y6), (7, .int v16), (8, .int v18)]) hx hb dX12_mostPair_185 hl (by decide) rfl (fun ls hl => ?_)
                    refine w_iinc (lv' := [(5, .int v16), (9, .int u20), (0, .ref (A 0)), (1, .int y1), (2, .int y2), (7, .int v16), (8, .int v18)]) hx hb dX12_mostPair_187 hl (k := 5) rfl (by decide) (by decide) rfl h (fun v21 ls hl h => ?_)
                    refine lv_goto (tgt := 97) hx hb dX12_mostPair_190 (by decide) ?_
                    exact ih v16 v21 _ _ _ hW (lv_sub hl [3, 4, 5, 1, 0] rfl) h
                  · refine lv_iload hx hb dX12_mostPair_164 (lv_at hl 7 rfl) ?_
                    refine lv_iload hx hb dX12_mostPair_166 (lv_at hl 0 rfl) ?_
                    refine bc_ne (tgt := 183) hx hb h dX12_mostPair_168 (by decide) (fun _ h => ?_) (fun _ h => ?_)
                    · refine lv_iload hx hb dX12_mostPair_171 (lv_at hl 6 rfl) ?_
                      refine lv_iload hx hb dX12_mostPair_173 (lv_at hl 4 rfl) ?_
                      refine bc_ge (tgt := 183) hx hb h dX12_mostPair_175 (by decide) (fun _ h => ?_) (fun _ h => ?_)
                      · refine lv_iload hx hb dX12_mostPair_183 (lv_at hl 4 rfl) ?_
                        refine lv_istore (lv' := [(5, .int y5), (9, .int u20), (0, .ref (A 0)), (1, .int y1), (2, .int y2), (6, .int y6), (7, .int v16), (8, .int v18)]) hx hb dX12_mostPair_185 hl (by decide) rfl (fun ls hl => ?_)
                        refine w_iinc (lv' := [(5, .int y5), (9, .int u20), (0, .ref (A 0)), (1, .int y1), (2, .int y2), (7, .int v16), (8, .int v18)]) hx hb dX12_mostPair_187 hl (k := 5) rfl (by decide) (by decide) rfl h (fun v23 ls hl h => ?_)
                        refine lv_goto (tgt := 97) hx hb dX12_mostPair_190 (by decide) ?_
                        exact ih y5 v23 _ _ _ hW (lv_sub hl [3, 4, 5, 1, 0] rfl) h
                      · refine lv_iload hx hb dX12_mostPair_178 (lv_at hl 6 rfl) ?_
                        refine lv_goto (tgt := 185) hx hb dX12_mostPair_180 (by decide) ?_
                        refine lv_istore (lv' := [(5, .int v16), (9, .int u20), (0, .ref (A 0)), (1, .int y1), (2, .int y2), (6, .int y6), (7, .int v16), (8, .int v18)]) hx hb dX12_mostPair_185 hl (by decide) rfl (fun ls hl => ?_)
                        refine w_iinc (lv' := [(5, .int v16), (9, .int u20), (0, .ref (A 0)), (1, .int y1), (2, .int y2), (7, .int v16), (8, .int v18)]) hx hb dX12_mostPair_187 hl (k := 5) rfl (by decide) (by decide) rfl h (fun v24 ls hl h => ?_)
                        refine lv_goto (tgt := 97) hx hb dX12_mostPair_190 (by decide) ?_
                        exact ih v16 v24 _ _ _ hW (lv_sub hl [3, 4, 5, 1, 0] rfl) h
                    · refine lv_iload hx hb dX12_mostPair_183 (lv_at hl 4 rfl) ?_
                      refine lv_istore (lv' := [(5, .int y5), (9, .int u20), (0, .ref (A 0)), (1, .int y1), (2, .int y2), (6, .int y6), (7, .int v16), (8, .int v18)]) hx hb dX12_mostPair_185 hl (by decide) rfl (fun ls hl => ?_)
                      refine w_iinc (lv' := [(5, .int y5), (9, .int u20), (0, .ref (A 0)), (1, .int y1), (2, .int y2), (7, .int v16), (8, .int v18)]) hx hb dX12_mostPair_187 hl (k := 5) rfl (by decide) (by decide) rfl h (fun v22 ls hl h => ?_)
                      refine lv_goto (tgt := 97) hx hb dX12_mostPair_190 (by decide) ?_
                      exact ih y5 v22 _ _ _ hW (lv_sub hl [3, 4, 5, 1, 0] rfl) h
                clear eJ19
                refine bc_ne (tgt := 147) hx hb h dX12_mostPair_140 (by decide) (fun _ h => ?_) (fun _ h => ?_)
                · refine lv_iconst (v := 0) hx hb dX12_mostPair_143 (by decide) ?_
                  refine lv_goto (tgt := 155) hx hb dX12_mostPair_144 (by decide) ?_
                  exact hJ19 0 _ _ _ hW (lv_sub hl [2, 3, 4, 5, 6, 1, 0] rfl) h
                · refine lv_aload_n hx hb dX12_mostPair_147 rfl (lv_at hl 2 rfl) ?_
                  refine lv_iload_n hx hb dX12_mostPair_148 rfl (lv_at hl 3 rfl) ?_
                  refine lv_iload_n hx hb dX12_mostPair_149 rfl (lv_at hl 4 rfl) ?_
                  refine lv_iload hx hb dX12_mostPair_150 (lv_at hl 5 rfl) ?_
                  obtain ⟨v26, h25, h⟩ := bd_o h
                  refine back_i (rest := []) hW (run_V S hW (ct_X12_pairs l n G A σ _ y1 y2 y5 h25) mi_X12_pairs lk_X12_262 (eM_0 G A σ) rfl rfl rfl hl (Nat.le_of_ble_eq_true rfl) dX12_mostPair_152 ⟨Nat.le_of_ble_eq_true rfl, Nat.le_of_ble_eq_true rfl⟩ rfl rfl) (fun H locs hW => ?_)
                  exact hJ19 v26 _ _ _ hW (lv_sub hl [2, 3, 4, 5, 6, 1, 0] rfl) h
          refine hL97 a1 a2 σ _ (fun w27 H locs ls hW hl h => ?_) n (-1) 0 _ _ _ hW (lv_sub hl [2, 3, 4, 1, 0] rfl) h
          refine lv_iload hx hb dX12_mostPair_193 (lv_at hl 0 rfl) ?_
          exact ret_is (wf := wM G A) hret h rfl hW dX12_mostPair_195
      clear eJ4
      refine bz_ne (tgt := 43) hx hb h dX12_mostPair_36 (by decide) (fun _ h => ?_) (fun _ h => ?_)
      · refine lv_iconst (v := 1) hx hb dX12_mostPair_39 (by decide) ?_
        refine lv_goto (tgt := 44) hx hb dX12_mostPair_40 (by decide) ?_
        exact hJ4 1 _ _ _ hW (lv_sub hl [0, 1, 2] rfl) h
      · refine lv_iconst (v := 0) hx hb dX12_mostPair_43 (by decide) ?_
        exact hJ4 0 _ _ _ hW (lv_sub hl [0, 1, 2] rfl) h
    · refine lv_aload_n hx hb dX12_mostPair_28 rfl (lv_at hl 0 rfl) ?_
      refine lv_bipush (v := (-5)) hx hb dX12_mostPair_29 (by decide) ?_
      obtain ⟨v33, σ32, h31, h⟩ := bd2_o h
      refine back_i (rest := []) hW (run_V S hW (ct_X12_refused l G A σ _ (-5) h31) mi_X12_refused lk_X12_75 (eM_0 G A σ) rfl rfl rfl hl (Nat.le_of_ble_eq_true rfl) dX12_mostPair_31 ⟨Nat.le_of_ble_eq_true rfl, Nat.le_of_ble_eq_true rfl⟩ rfl rfl) (fun H locs hW => ?_)
      exact ret_is (wf := wM G A) hret h rfl hW dX12_mostPair_34
  clear eJ3
  refine bz_eq (tgt := 23) hx hb h dX12_mostPair_8 (by decide) (fun _ h => ?_) (fun _ h => ?_)
  · exact hJ3  _ _ _ hW (lv_sub hl [1, 2, 3, 0] rfl) h
  · refine lv_iload_n hx hb dX12_mostPair_11 rfl (lv_at hl 0 rfl) ?_
    refine lv_bipush (v := (-6)) hx hb dX12_mostPair_12 (by decide) ?_
    refine bc_eq (tgt := 23) hx hb h dX12_mostPair_14 (by decide) (fun _ h => ?_) (fun _ h => ?_)
    · exact hJ3  _ _ _ hW (lv_sub hl [1, 2, 3, 0] rfl) h
    · refine lv_aload_n hx hb dX12_mostPair_17 rfl (lv_at hl 1 rfl) ?_
      refine lv_iload_n hx hb dX12_mostPair_18 rfl (lv_at hl 0 rfl) ?_
      obtain ⟨v36, σ35, h34, h⟩ := bd2_o h
      refine back_i (rest := []) hW (run_V S hW (ct_X12_refused l G A σ _ v2 h34) mi_X12_refused lk_X12_75 (eM_0 G A σ) rfl rfl rfl hl (Nat.le_of_ble_eq_true rfl) dX12_mostPair_19 ⟨Nat.le_of_ble_eq_true rfl, Nat.le_of_ble_eq_true rfl⟩ rfl rfl) (fun H locs hW => ?_)
      exact ret_is (wf := wM G A) hret h rfl hW dX12_mostPair_22
def rmX12_does : Room := { frames := 1, cells := 0, slots := 0, locals := 22 }
def f_X12_does (σ : SC) (a1 : Int32) : Option SC := ld (ga σ 0) 173 170 (fun v1 => bd (f_X12_behindIt σ v1 a1) (fun v3 => ck 173 170 (lt (sa σ 0 (upd (ga σ 0) (170 : Int32).toNatClampNeg v3)) (fun σ4 => ck 40 (gi σ4 12) (lt (sa σ4 13 (upd (ga σ4 13) (gi σ4 12).toNatClampNeg a1)) (fun σ5 => lt (si σ5 12 ((gi σ5 12) + 1)) (fun σ6 => some σ6)))))))
theorem mi_X12_does : MI yX12_does cX12_does 2 none 1 := ⟨im_X12_does, se_X12_does, in_X12, co_X12_does, by decide, by decide, by decide +kernel⟩
set_option maxRecDepth 100000 in
set_option maxHeartbeats 4000000 in
theorem ct_X12_does (l : Launch) (G : EN) (A : Nat → Nat) (σ : SC) (sz : Nat) (a1 : Int32) {σ0 : SC} (h : f_X12_does σ a1 = some σ0) : CT l yX12_does cX12_does 2 none rmX12_does G sz [.ref (A 0), .int a1] (wM G A σ) (QV G (va_A (wM G A σ) sz) (wM G A σ0)) := by
  unfold f_X12_does at h
  refine CV.intro (lv := [(0, .ref (A 0)), (1, .int a1)]) (by decide) (Nat.le_of_ble_eq_true rfl) rfl ?_
  intro p e s m args below meth c Q B S hret H locs ls hW hl
  have hx := S.1
  have hb := S.2.1
  refine lv_aload_n hx hb dX12_does_0 rfl (lv_at hl 0 rfl) ?_
  refine gM_s S hW lk_X12_7 dX12_does_1 ?_
  refine lv_sipush (v := 170) hx hb dX12_does_4 (by decide) ?_
  refine lv_aload_n hx hb dX12_does_7 rfl (lv_at hl 0 rfl) ?_
  refine lv_aload_n hx hb dX12_does_8 rfl (lv_at hl 0 rfl) ?_
  refine gM_s S hW lk_X12_7 dX12_does_9 ?_
  refine lv_sipush (v := 170) hx hb dX12_does_12 (by decide) ?_
  refine aM_1 S hW h dX12_does_15 (fun v1 _ h => ?_)
  refine lv_iload_n hx hb dX12_does_16 rfl (lv_at hl 1 rfl) ?_
  obtain ⟨v3, h2, h⟩ := bd_o h
  refine back_i (rest := [.int 170, .ref (A 1)]) hW (run_V S hW (ct_X12_behindIt l G A σ _ v1 a1 h2) mi_X12_behindIt lk_X12_168 (eM_0 G A σ) rfl rfl rfl hl (Nat.le_of_ble_eq_true rfl) dX12_does_17 ⟨Nat.le_of_ble_eq_true rfl, Nat.le_of_ble_eq_true rfl⟩ rfl rfl) (fun H locs hW => ?_)
  refine sM_1 S hW h dX12_does_20 (fun σ4 H locs eσ4 _ h hW => ?_)
  have h := lt_at eσ4 h
  refine lv_aload_n hx hb dX12_does_21 rfl (lv_at hl 0 rfl) ?_
  refine gM_traced S hW lk_X12_60 dX12_does_22 ?_
  refine lv_aload_n hx hb dX12_does_25 rfl (lv_at hl 0 rfl) ?_
  refine gM_tracedMany S hW lk_X12_266 dX12_does_26 ?_
  refine lv_iload_n hx hb dX12_does_29 rfl (lv_at hl 1 rfl) ?_
  refine sM_16 S hW h dX12_does_30 (fun σ5 H locs eσ5 _ h hW => ?_)
  have h := lt_at eσ5 h
  refine lv_aload_n hx hb dX12_does_31 rfl (lv_at hl 0 rfl) ?_
  refine lv_dup hx hb dX12_does_32 rfl ?_
  refine gM_tracedMany S hW lk_X12_266 dX12_does_33 ?_
  refine lv_iconst (v := 1) hx hb dX12_does_36 (by decide) ?_
  refine lv_iadd hx hb dX12_does_37 ?_
  refine pM_tracedMany S hW lk_X12_266 dX12_does_38 (fun σ6 H locs eσ6 hW => ?_)
  have h := lt_at eσ6 h
  exact ret_vs (wf := wM G A) hret h hW dX12_does_41
def rmX12_greedy : Room := { frames := 6, cells := 0, slots := 0, locals := 142 }
def LX12_greedy_77 (n : Nat) (y1 : Int32) (K : SC → Int32 → Option (Int32 × SC)) : Nat → SC → Int32 → Int32 → Int32 → Option (Int32 × SC)
  | 0, _, _, _, _ => none
  | k + 1, σ, y3, y4, y5 => ld (ga σ 0) 173 172 (fun v4 => if v4 ≤ y5 then K σ y3 else ld (ga σ 0) 173 170 (fun v5 => bd (f_X12_mayBe σ v5 y5) (fun v7 => jn (fun (σ9 : SC) (u10 : Int32) => jn (fun (u12 : Int32) => if u10 = (-1) then lt (y5 + 1) (fun v13 => LX12_greedy_77 n y1 K k σ9 u12 y4 v13) else if y4 ≤ u10 then lt (y5 + 1) (fun v14 => LX12_greedy_77 n y1 K k σ9 u12 y4 v14) else lt (y5 + 1) (fun v15 => LX12_greedy_77 n y1 K k σ9 u12 u10 v15)) (fun J11 => if u10 = (-1) then J11 y3 else if y4 ≤ u10 then J11 y3 else J11 y5)) (fun J8 => if v7 = 0 then J8 σ (-1) else ld (ga σ 0) 173 170 (fun v16 => bd (f_X12_behindIt σ v16 y5) (fun v18 => bd2 (f_X12_guessed n σ v18 y1) (fun v21 σ20 => J8 σ20 v21)))))))
def LX12_greedy_37 (n : Nat) (y1 : Int32) (y2 : Int32) (K : SC → Option (Int32 × SC)) : Nat → SC → Option (Int32 × SC)
  | 0, _ => none
  | k + 1, σ => if y2 ≤ (gi σ 12) then K σ else ld (ga σ 0) 173 170 (fun v2 => ld (ga σ 0) 173 169 (fun v3 => if (f_X12_has v2 v3) = 0 then LX12_greedy_77 n y1 (fun σ22 w23 => if w23 = (-1) then some ((gi σ22 12), σ22) else bd (f_X12_does σ22 w23) (fun σ25 => LX12_greedy_37 n y1 y2 K k σ25)) n σ (-1) 200000000 0 else K σ))
def f_X12_greedy (n : Nat) (σ : SC) (a1 : Int32) (a2 : Int32) : Option (Int32 × SC) := if (f_X12_in a1 0 3) = 0 then bd2 (f_X12_refused σ (-1)) (fun v32 σ31 => some (v32, σ31)) else if (f_X12_in a2 1 40) = 0 then bd2 (f_X12_refused σ (-6)) (fun v29 σ28 => some (v29, σ28)) else lt (si σ 12 0) (fun σ1 => LX12_greedy_37 n a1 a2 (fun σ26 => some ((gi σ26 12), σ26)) n σ1)
theorem mi_X12_greedy : MI yX12_greedy cX12_greedy 7 (some .int) 2 := ⟨im_X12_greedy, se_X12_greedy, in_X12, co_X12_greedy, by decide, by decide, by decide +kernel⟩
set_option maxRecDepth 100000 in
set_option maxHeartbeats 4000000 in
theorem ct_X12_greedy (l : Launch) (n : Nat) (G : EN) (A : Nat → Nat) (σ : SC) (sz : Nat) (a1 : Int32) (a2 : Int32) {r0 : Int32} {σ0 : SC} (h : f_X12_greedy n σ a1 a2 = some (r0, σ0)) : CT l yX12_greedy cX12_greedy 7 (some .int) rmX12_greedy G sz [.ref (A 0), .int a1, .int a2] (wM G A σ) (QI G (va_A (wM G A σ) sz) r0 (wM G A σ0)) := by
  unfold f_X12_greedy at h
  refine CI.intro (lv := [(0, .ref (A 0)), (1, .int a1), (2, .int a2)]) (by decide) (Nat.le_of_ble_eq_true rfl) rfl ?_
  intro p e s m args below meth c Q B S hret H locs ls hW hl
  have hx := S.1
  have hb := S.2.1
  refine lv_iload_n hx hb dX12_greedy_0 rfl (lv_at hl 1 rfl) ?_
  refine lv_iconst (v := 0) hx hb dX12_greedy_1 (by decide) ?_
  refine lv_iconst (v := 3) hx hb dX12_greedy_2 (by decide) ?_
  refine back_i (rest := []) hW (run_S S hW (ct_X12_in l G A σ _ a1 0 3 rfl) ms_X12_in lk_X12_67 rfl rfl hl (Nat.le_of_ble_eq_true rfl) dX12_greedy_3 ⟨Nat.le_of_ble_eq_true rfl, Nat.le_of_ble_eq_true rfl⟩ rfl rfl) (fun H locs hW => ?_)
  refine bz_ne (tgt := 15) hx hb h dX12_greedy_6 (by decide) (fun _ h => ?_) (fun _ h => ?_)
  · refine lv_aload_n hx hb dX12_greedy_9 rfl (lv_at hl 0 rfl) ?_
    refine lv_iconst (v := (-1)) hx hb dX12_greedy_10 (by decide) ?_
    obtain ⟨v32, σ31, h30, h⟩ := bd2_o h
    refine back_i (rest := []) hW (run_V S hW (ct_X12_refused l G A σ _ (-1) h30) mi_X12_refused lk_X12_75 (eM_0 G A σ) rfl rfl rfl hl (Nat.le_of_ble_eq_true rfl) dX12_greedy_11 ⟨Nat.le_of_ble_eq_true rfl, Nat.le_of_ble_eq_true rfl⟩ rfl rfl) (fun H locs hW => ?_)
    exact ret_is (wf := wM G A) hret h rfl hW dX12_greedy_14
  · refine lv_iload_n hx hb dX12_greedy_15 rfl (lv_at hl 2 rfl) ?_
    refine lv_iconst (v := 1) hx hb dX12_greedy_16 (by decide) ?_
    refine lv_bipush (v := 40) hx hb dX12_greedy_17 (by decide) ?_
    refine back_i (rest := []) hW (run_S S hW (ct_X12_in l G A σ _ a2 1 40 rfl) ms_X12_in lk_X12_67 rfl rfl hl (Nat.le_of_ble_eq_true rfl) dX12_greedy_19 ⟨Nat.le_of_ble_eq_true rfl, Nat.le_of_ble_eq_true rfl⟩ rfl rfl) (fun H locs hW => ?_)
    refine bz_ne (tgt := 32) hx hb h dX12_greedy_22 (by decide) (fun _ h => ?_) (fun _ h => ?_)
    · refine lv_aload_n hx hb dX12_greedy_25 rfl (lv_at hl 0 rfl) ?_
      refine lv_bipush (v := (-6)) hx hb dX12_greedy_26 (by decide) ?_
      obtain ⟨v29, σ28, h27, h⟩ := bd2_o h
      refine back_i (rest := []) hW (run_V S hW (ct_X12_refused l G A σ _ (-6) h27) mi_X12_refused lk_X12_75 (eM_0 G A σ) rfl rfl rfl hl (Nat.le_of_ble_eq_true rfl) dX12_greedy_28 ⟨Nat.le_of_ble_eq_true rfl, Nat.le_of_ble_eq_true rfl⟩ rfl rfl) (fun H locs hW => ?_)
      exact ret_is (wf := wM G A) hret h rfl hW dX12_greedy_31
    · refine lv_aload_n hx hb dX12_greedy_32 rfl (lv_at hl 0 rfl) ?_
      refine lv_iconst (v := 0) hx hb dX12_greedy_33 (by decide) ?_
      refine pM_tracedMany S hW lk_X12_266 dX12_greedy_34 (fun σ1 H locs eσ1 hW => ?_)
      have h := lt_at eσ1 h
      have hL37 : ∀ (y1 : Int32) (y2 : Int32) (K : SC → Option (Int32 × SC)), (∀ (σ : SC) (H : Heap) (locs : List Loc) (ls : Array Slot), WS G B s (wM G A σ) H locs → lv_has ls 7 [(0, .ref (A 0))] → K σ = some (r0, σ0) → W p l e rmX12_greedy s m args below meth c H locs 0 0 Q (F0 m 198 ls [])) → ∀ (k : Nat) (σ : SC)   (H : Heap) (locs : List Loc) (ls : Array Slot), WS G B s (wM G A σ) H locs → lv_has ls 7 [(0, .ref (A 0)), (1, .int y1), (2, .int y2)] → LX12_greedy_37 n y1 y2 K k σ = some (r0, σ0) → W p l e rmX12_greedy s m args below meth c H locs 0 0 Q (F0 m 37 ls []) := by
        intro y1 y2 K hK k
        induction k with
        | zero => intro σ H locs ls hW hl h; rw [LX12_greedy_37] at h; cases h
        | succ k ih =>
          intro σ H locs ls hW hl h
          rw [LX12_greedy_37] at h
          refine lv_aload_n hx hb dX12_greedy_37 rfl (lv_at hl 0 rfl) ?_
          refine gM_tracedMany S hW lk_X12_266 dX12_greedy_38 ?_
          refine lv_iload_n hx hb dX12_greedy_41 rfl (lv_at hl 2 rfl) ?_
          refine bc_ge (tgt := 198) hx hb h dX12_greedy_42 (by decide) (fun _ h => ?_) (fun _ h => ?_)
          · exact hK σ _ _ _ hW (lv_sub hl [0] rfl) h
          · refine lv_aload_n hx hb dX12_greedy_45 rfl (lv_at hl 0 rfl) ?_
            refine gM_s S hW lk_X12_7 dX12_greedy_46 ?_
            refine lv_sipush (v := 170) hx hb dX12_greedy_49 (by decide) ?_
            refine aM_1 S hW h dX12_greedy_52 (fun v2 _ h => ?_)
            refine lv_aload_n hx hb dX12_greedy_53 rfl (lv_at hl 0 rfl) ?_
            refine gM_s S hW lk_X12_7 dX12_greedy_54 ?_
            refine lv_sipush (v := 169) hx hb dX12_greedy_57 (by decide) ?_
            refine aM_1 S hW h dX12_greedy_60 (fun v3 _ h => ?_)
            refine back_i (rest := []) hW (run_S S hW (ct_X12_has l G A σ _ v2 v3 rfl) ms_X12_has lk_X12_161 rfl rfl hl (Nat.le_of_ble_eq_true rfl) dX12_greedy_61 ⟨Nat.le_of_ble_eq_true rfl, Nat.le_of_ble_eq_true rfl⟩ rfl rfl) (fun H locs hW => ?_)
            refine bz_ne (tgt := 198) hx hb h dX12_greedy_64 (by decide) (fun _ h => ?_) (fun _ h => ?_)
            · refine lv_iconst (v := (-1)) hx hb dX12_greedy_67 (by decide) ?_
              refine lv_istore_n (lv' := [(3, .int (-1)), (0, .ref (A 0)), (1, .int y1), (2, .int y2)]) hx hb dX12_greedy_68 rfl hl (by decide) rfl (fun ls hl => ?_)
              refine lv_ldcw (v := 200000000) hx hb S.2.2.2.1 (S.2.2.2.2 _ lk_X12_269) dX12_greedy_69 ?_
              refine lv_istore (lv' := [(4, .int 200000000), (3, .int (-1)), (0, .ref (A 0)), (1, .int y1), (2, .int y2)]) hx hb dX12_greedy_72 hl (by decide) rfl (fun ls hl => ?_)
              refine lv_iconst (v := 0) hx hb dX12_greedy_74 (by decide) ?_
              refine lv_istore (lv' := [(5, .int 0), (4, .int 200000000), (3, .int (-1)), (0, .ref (A 0)), (1, .int y1), (2, .int y2)]) hx hb dX12_greedy_75 hl (by decide) rfl (fun ls hl => ?_)
              have hL77 : ∀ (y1 : Int32) (y2 : Int32) (K : SC → Int32 → Option (Int32 × SC)), (∀ (σ : SC) (z3 : Int32) (H : Heap) (locs : List Loc) (ls : Array Slot), WS G B s (wM G A σ) H locs → lv_has ls 7 [(0, .ref (A 0)), (1, .int y1), (2, .int y2), (3, .int z3)] → K σ z3 = some (r0, σ0) → W p l e rmX12_greedy s m args below meth c H locs 0 0 Q (F0 m 180 ls [])) → ∀ (k : Nat) (σ : SC) (y3 : Int32) (y4 : Int32) (y5 : Int32)  (H : Heap) (locs : List Loc) (ls : Array Slot), WS G B s (wM G A σ) H locs → lv_has ls 7 [(0, .ref (A 0)), (1, .int y1), (2, .int y2), (3, .int y3), (4, .int y4), (5, .int y5)] → LX12_greedy_77 n y1 K k σ y3 y4 y5 = some (r0, σ0) → W p l e rmX12_greedy s m args below meth c H locs 0 0 Q (F0 m 77 ls []) := by
                intro y1 y2 K hK k
                induction k with
                | zero => intro σ y3 y4 y5 H locs ls hW hl h; rw [LX12_greedy_77] at h; cases h
                | succ k ih =>
                  intro σ y3 y4 y5 H locs ls hW hl h
                  rw [LX12_greedy_77] at h
                  refine lv_iload hx hb dX12_greedy_77 (lv_at hl 5 rfl) ?_
                  refine lv_aload_n hx hb dX12_greedy_79 rfl (lv_at hl 0 rfl) ?_
                  refine gM_s S hW lk_X12_7 dX12_greedy_80 ?_
                  refine lv_sipush (v := 172) hx hb dX12_greedy_83 (by decide) ?_
                  refine aM_1 S hW h dX12_greedy_86 (fun v4 _ h => ?_)
                  refine bc_ge (tgt := 180) hx hb h dX12_greedy_87 (by decide) (fun _ h => ?_) (fun _ h => ?_)
                  · exact hK σ y3 _ _ _ hW (lv_sub hl [0, 1, 2, 3] rfl) h
                  · refine lv_aload_n hx hb dX12_greedy_90 rfl (lv_at hl 0 rfl) ?_
                    refine lv_aload_n hx hb dX12_greedy_91 rfl (lv_at hl 0 rfl) ?_
                    refine gM_s S hW lk_X12_7 dX12_greedy_92 ?_
                    refine lv_sipush (v := 170) hx hb dX12_greedy_95 (by decide) ?_
                    refine aM_1 S hW h dX12_greedy_98 (fun v5 _ h => ?_)
                    refine lv_iload hx hb dX12_greedy_99 (lv_at hl 5 rfl) ?_
                    obtain ⟨v7, h6, h⟩ := bd_o h
                    refine back_i (rest := []) hW (run_V S hW (ct_X12_mayBe l G A σ _ v5 y5 h6) mi_X12_mayBe lk_X12_165 (eM_0 G A σ) rfl rfl rfl hl (Nat.le_of_ble_eq_true rfl) dX12_greedy_101 ⟨Nat.le_of_ble_eq_true rfl, Nat.le_of_ble_eq_true rfl⟩ rfl rfl) (fun H locs hW => ?_)
                    obtain ⟨J8, eJ8, h⟩ := jn_o h
                    have hJ8 : ∀ (σ9 : SC) (u10 : Int32)  (H : Heap) (locs : List Loc) (ls : Array Slot), WS G B s (wM G A σ9) H locs → lv_has ls 7 [(0, .ref (A 0)), (1, .int y1), (2, .int y2), (3, .int y3), (4, .int y4), (5, .int y5)] → J8 σ9 u10 = some (r0, σ0) → W p l e rmX12_greedy s m args below meth c H locs 0 0 Q (F0 m 130 ls [.int u10]) := by
                      subst eJ8
                      intro σ9 u10 H locs ls hW hl h
                      refine lv_istore (lv' := [(6, .int u10), (0, .ref (A 0)), (1, .int y1), (2, .int y2), (3, .int y3), (4, .int y4), (5, .int y5)]) hx hb dX12_greedy_130 hl (by decide) rfl (fun ls hl => ?_)
                      refine lv_iload hx hb dX12_greedy_132 (lv_at hl 0 rfl) ?_
                      refine lv_iconst (v := (-1)) hx hb dX12_greedy_134 (by decide) ?_
                      obtain ⟨J11, eJ11, h⟩ := jn_o h
                      have hJ11 : ∀ (u12 : Int32)  (H : Heap) (locs : List Loc) (ls : Array Slot), WS G B s (wM G A σ9) H locs → lv_has ls 7 [(0, .ref (A 0)), (1, .int y1), (2, .int y2), (4, .int y4), (5, .int y5), (6, .int u10)] → J11 u12 = some (r0, σ0) → W p l e rmX12_greedy s m args below meth c H locs 0 0 Q (F0 m 151 ls [.int u12]) := by
                        subst eJ11
                        intro u12 H locs ls hW hl h
                        refine lv_istore_n (lv' := [(3, .int u12), (0, .ref (A 0)), (1, .int y1), (2, .int y2), (4, .int y4), (5, .int y5), (6, .int u10)]) hx hb dX12_greedy_151 rfl hl (by decide) rfl (fun ls hl => ?_)
                        refine lv_iload hx hb dX12_greedy_152 (lv_at hl 6 rfl) ?_
                        refine lv_iconst (v := (-1)) hx hb dX12_greedy_154 (by decide) ?_
                        refine bc_eq (tgt := 170) hx hb h dX12_greedy_155 (by decide) (fun _ h => ?_) (fun _ h => ?_)
                        · refine lv_iload hx hb dX12_greedy_170 (lv_at hl 4 rfl) ?_
                          refine lv_istore (lv' := [(4, .int y4), (3, .int u12), (0, .ref (A 0)), (1, .int y1), (2, .int y2), (5, .int y5), (6, .int u10)]) hx hb dX12_greedy_172 hl (by decide) rfl (fun ls hl => ?_)
                          refine w_iinc (lv' := [(4, .int y4), (3, .int u12), (0, .ref (A 0)), (1, .int y1), (2, .int y2), (6, .int u10)]) hx hb dX12_greedy_174 hl (k := 5) rfl (by decide) (by decide) rfl h (fun v13 ls hl h => ?_)
                          refine lv_goto (tgt := 77) hx hb dX12_greedy_177 (by decide) ?_
                          exact ih σ9 u12 y4 v13 _ _ _ hW (lv_sub hl [3, 4, 5, 2, 1, 0] rfl) h
                        · refine lv_iload hx hb dX12_greedy_158 (lv_at hl 6 rfl) ?_
                          refine lv_iload hx hb dX12_greedy_160 (lv_at hl 4 rfl) ?_
                          refine bc_ge (tgt := 170) hx hb h dX12_greedy_162 (by decide) (fun _ h => ?_) (fun _ h => ?_)
                          · refine lv_iload hx hb dX12_greedy_170 (lv_at hl 4 rfl) ?_
                            refine lv_istore (lv' := [(4, .int y4), (3, .int u12), (0, .ref (A 0)), (1, .int y1), (2, .int y2), (5, .int y5), (6, .int u10)]) hx hb dX12_greedy_172 hl (by decide) rfl (fun ls hl => ?_)
                            refine w_iinc (lv' := [(4, .int y4), (3, .int u12), (0, .ref (A 0)), (1, .int y1), (2, .int y2), (6, .int u10)]) hx hb dX12_greedy_174 hl (k := 5) rfl (by decide) (by decide) rfl h (fun v14 ls hl h => ?_)
                            refine lv_goto (tgt := 77) hx hb dX12_greedy_177 (by decide) ?_
                            exact ih σ9 u12 y4 v14 _ _ _ hW (lv_sub hl [3, 4, 5, 2, 1, 0] rfl) h
                          · refine lv_iload hx hb dX12_greedy_165 (lv_at hl 6 rfl) ?_
                            refine lv_goto (tgt := 172) hx hb dX12_greedy_167 (by decide) ?_
                            refine lv_istore (lv' := [(4, .int u10), (3, .int u12), (0, .ref (A 0)), (1, .int y1), (2, .int y2), (5, .int y5), (6, .int u10)]) hx hb dX12_greedy_172 hl (by decide) rfl (fun ls hl => ?_)
                            refine w_iinc (lv' := [(4, .int u10), (3, .int u12), (0, .ref (A 0)), (1, .int y1), (2, .int y2), (6, .int u10)]) hx hb dX12_greedy_174 hl (k := 5) rfl (by decide) (by decide) rfl h (fun v15 ls hl h => ?_)
                            refine lv_goto (tgt := 77) hx hb dX12_greedy_177 (by decide) ?_
                            exact ih σ9 u12 u10 v15 _ _ _ hW (lv_sub hl [3, 4, 5, 2, 1, 0] rfl) h
                      clear eJ11
                      refine bc_eq (tgt := 150) hx hb h dX12_greedy_135 (by decide) (fun _ h => ?_) (fun _ h => ?_)
                      · refine lv_iload_n hx hb dX12_greedy_150 rfl (lv_at hl 4 rfl) ?_
                        exact hJ11 y3 _ _ _ hW (lv_sub hl [1, 2, 3, 5, 6, 0] rfl) h
                      · refine lv_iload hx hb dX12_greedy_138 (lv_at hl 0 rfl) ?_
                        refine lv_iload hx hb dX12_greedy_140 (lv_at hl 5 rfl) ?_
                        refine bc_ge (tgt := 150) hx hb h dX12_greedy_142 (by decide) (fun _ h => ?_) (fun _ h => ?_)
                        · refine lv_iload_n hx hb dX12_greedy_150 rfl (lv_at hl 4 rfl) ?_
                          exact hJ11 y3 _ _ _ hW (lv_sub hl [1, 2, 3, 5, 6, 0] rfl) h
                        · refine lv_iload hx hb dX12_greedy_145 (lv_at hl 6 rfl) ?_
                          refine lv_goto (tgt := 151) hx hb dX12_greedy_147 (by decide) ?_
                          exact hJ11 y5 _ _ _ hW (lv_sub hl [1, 2, 3, 5, 6, 0] rfl) h
                    clear eJ8
                    refine bz_eq (tgt := 129) hx hb h dX12_greedy_104 (by decide) (fun _ h => ?_) (fun _ h => ?_)
                    · refine lv_iconst (v := (-1)) hx hb dX12_greedy_129 (by decide) ?_
                      exact hJ8 σ (-1) _ _ _ hW (hl) h
                    · refine lv_aload_n hx hb dX12_greedy_107 rfl (lv_at hl 0 rfl) ?_
                      refine lv_aload_n hx hb dX12_greedy_108 rfl (lv_at hl 0 rfl) ?_
                      refine lv_aload_n hx hb dX12_greedy_109 rfl (lv_at hl 0 rfl) ?_
                      refine gM_s S hW lk_X12_7 dX12_greedy_110 ?_
                      refine lv_sipush (v := 170) hx hb dX12_greedy_113 (by decide) ?_
                      refine aM_1 S hW h dX12_greedy_116 (fun v16 _ h => ?_)
                      refine lv_iload hx hb dX12_greedy_117 (lv_at hl 5 rfl) ?_
                      obtain ⟨v18, h17, h⟩ := bd_o h
                      refine back_i (rest := [.ref (A 0)]) hW (run_V S hW (ct_X12_behindIt l G A σ _ v16 y5 h17) mi_X12_behindIt lk_X12_168 (eM_0 G A σ) rfl rfl rfl hl (Nat.le_of_ble_eq_true rfl) dX12_greedy_119 ⟨Nat.le_of_ble_eq_true rfl, Nat.le_of_ble_eq_true rfl⟩ rfl rfl) (fun H locs hW => ?_)
                      refine lv_iload_n hx hb dX12_greedy_122 rfl (lv_at hl 1 rfl) ?_
                      obtain ⟨v21, σ20, h19, h⟩ := bd2_o h
                      refine back_i (rest := []) hW (run_V S hW (ct_X12_guessed l n G A σ _ v18 y1 h19) mi_X12_guessed lk_X12_223 (eM_0 G A σ) rfl rfl rfl hl (Nat.le_of_ble_eq_true rfl) dX12_greedy_123 ⟨Nat.le_of_ble_eq_true rfl, Nat.le_of_ble_eq_true rfl⟩ rfl rfl) (fun H locs hW => ?_)
                      refine lv_goto (tgt := 130) hx hb dX12_greedy_126 (by decide) ?_
                      exact hJ8 σ20 v21 _ _ _ hW (hl) h
              refine hL77 y1 y2 _ (fun σ22 w23 H locs ls hW hl h => ?_) n σ (-1) 200000000 0 _ _ _ hW (lv_sub hl [3, 4, 5, 2, 1, 0] rfl) h
              refine lv_iload_n hx hb dX12_greedy_180 rfl (lv_at hl 3 rfl) ?_
              refine lv_iconst (v := (-1)) hx hb dX12_greedy_181 (by decide) ?_
              refine bc_ne (tgt := 190) hx hb h dX12_greedy_182 (by decide) (fun _ h => ?_) (fun _ h => ?_)
              · refine lv_aload_n hx hb dX12_greedy_185 rfl (lv_at hl 0 rfl) ?_
                refine gM_tracedMany S hW lk_X12_266 dX12_greedy_186 ?_
                exact ret_is (wf := wM G A) hret h rfl hW dX12_greedy_189
              · refine lv_aload_n hx hb dX12_greedy_190 rfl (lv_at hl 0 rfl) ?_
                refine lv_iload_n hx hb dX12_greedy_191 rfl (lv_at hl 3 rfl) ?_
                obtain ⟨σ25, h24, h⟩ := bd_o h
                refine back_v (rest := []) hW (run_V S hW (ct_X12_does l G A σ22 _ w23 h24) mi_X12_does lk_X12_270 (eM_0 G A σ22) rfl rfl rfl hl (Nat.le_of_ble_eq_true rfl) dX12_greedy_192 ⟨Nat.le_of_ble_eq_true rfl, Nat.le_of_ble_eq_true rfl⟩ rfl rfl) (fun H locs hW => ?_)
                refine lv_goto (tgt := 37) hx hb dX12_greedy_195 (by decide) ?_
                exact ih σ25 _ _ _ hW (lv_sub hl [0, 1, 2] rfl) h
            · exact hK σ _ _ _ hW (lv_sub hl [0] rfl) h
      refine hL37 a1 a2 _ (fun σ26 H locs ls hW hl h => ?_) n σ1 _ _ _ hW (hl) h
      refine lv_aload_n hx hb dX12_greedy_198 rfl (lv_at hl 0 rfl) ?_
      refine gM_tracedMany S hW lk_X12_266 dX12_greedy_199 ?_
      exact ret_is (wf := wM G A) hret h rfl hW dX12_greedy_202
def rmX12_drawn : Room := { frames := 0, cells := 0, slots := 0, locals := 0 }
def f_X12_drawn (σ : SC) (a1 : Int32) : Option (Int32 × SC) := ld (ga σ 0) 173 171 (fun v1 => ck 173 171 (lt (sa σ 0 (upd (ga σ 0) (171 : Int32).toNatClampNeg ((v1 * 1103515245) + 12345))) (fun σ2 => ld (ga σ2 0) 173 171 (fun v3 => dv a1 (some ((((v3.toUInt32 >>> ((16 : Int32).toUInt32 &&& Int32.toUInt32 31)).toInt32) - ((v3.toUInt32 >>> ((16 : Int32).toUInt32 &&& Int32.toUInt32 31)).toInt32) / a1 * a1), σ2))))))
theorem mi_X12_drawn : MI yX12_drawn cX12_drawn 2 (some .int) 1 := ⟨im_X12_drawn, se_X12_drawn, in_X12, co_X12_drawn, by decide, by decide, by decide +kernel⟩
set_option maxRecDepth 100000 in
set_option maxHeartbeats 4000000 in
theorem ct_X12_drawn (l : Launch) (G : EN) (A : Nat → Nat) (σ : SC) (sz : Nat) (a1 : Int32) {r0 : Int32} {σ0 : SC} (h : f_X12_drawn σ a1 = some (r0, σ0)) : CT l yX12_drawn cX12_drawn 2 (some .int) rmX12_drawn G sz [.ref (A 0), .int a1] (wM G A σ) (QI G (va_A (wM G A σ) sz) r0 (wM G A σ0)) := by
  unfold f_X12_drawn at h
  refine CI.intro (lv := [(0, .ref (A 0)), (1, .int a1)]) (by decide) (Nat.le_of_ble_eq_true rfl) rfl ?_
  intro p e s m args below meth c Q B S hret H locs ls hW hl
  have hx := S.1
  have hb := S.2.1
  refine lv_aload_n hx hb dX12_drawn_0 rfl (lv_at hl 0 rfl) ?_
  refine gM_s S hW lk_X12_7 dX12_drawn_1 ?_
  refine lv_sipush (v := 171) hx hb dX12_drawn_4 (by decide) ?_
  refine lv_aload_n hx hb dX12_drawn_7 rfl (lv_at hl 0 rfl) ?_
  refine gM_s S hW lk_X12_7 dX12_drawn_8 ?_
  refine lv_sipush (v := 171) hx hb dX12_drawn_11 (by decide) ?_
  refine aM_1 S hW h dX12_drawn_14 (fun v1 _ h => ?_)
  refine lv_ldcw (v := 1103515245) hx hb S.2.2.2.1 (S.2.2.2.2 _ lk_X12_273) dX12_drawn_15 ?_
  refine lv_imul hx hb dX12_drawn_18 ?_
  refine lv_sipush (v := 12345) hx hb dX12_drawn_19 (by decide) ?_
  refine lv_iadd hx hb dX12_drawn_22 ?_
  refine sM_1 S hW h dX12_drawn_23 (fun σ2 H locs eσ2 _ h hW => ?_)
  have h := lt_at eσ2 h
  refine lv_aload_n hx hb dX12_drawn_24 rfl (lv_at hl 0 rfl) ?_
  refine gM_s S hW lk_X12_7 dX12_drawn_25 ?_
  refine lv_sipush (v := 171) hx hb dX12_drawn_28 (by decide) ?_
  refine aM_1 S hW h dX12_drawn_31 (fun v3 _ h => ?_)
  refine lv_bipush (v := 16) hx hb dX12_drawn_32 (by decide) ?_
  refine lv_iushr hx hb dX12_drawn_34 rfl ?_
  refine lv_iload_n hx hb dX12_drawn_35 rfl (lv_at hl 1 rfl) ?_
  obtain ⟨q4, h⟩ := dv_o h
  refine lv_irem hx hb dX12_drawn_36 q4 ?_
  exact ret_is (wf := wM G A) hret h rfl hW dX12_drawn_37
def rmX12_walk : Room := { frames := 2, cells := 0, slots := 0, locals := 43 }
def LX12_walk_34 (σ : SC) (K : Int32 → Option (Int32 × SC)) : Nat → Int32 → Int32 → Option (Int32 × SC)
  | 0, _, _ => none
  | k + 1, y2, y3 => ld (ga σ 0) 173 172 (fun v2 => if v2 ≤ y3 then K y2 else ld (ga σ 0) 173 170 (fun v3 => bd (f_X12_mayBe σ v3 y3) (fun v5 => if v5 = 0 then lt (y2 + 0) (fun v6 => lt (y3 + 1) (fun v7 => LX12_walk_34 σ K k v6 v7)) else lt (y2 + 1) (fun v8 => lt (y3 + 1) (fun v9 => LX12_walk_34 σ K k v8 v9)))))
def LX12_walk_94 (σ : SC) (K : Int32 → Option (Int32 × SC)) : Nat → Int32 → Int32 → Option (Int32 × SC)
  | 0, _, _ => none
  | k + 1, y3, y4 => ld (ga σ 0) 173 170 (fun v14 => bd (f_X12_mayBe σ v14 y4) (fun v16 => jn (fun (_ : Unit) => ld (ga σ 0) 173 170 (fun v18 => bd (f_X12_mayBe σ v18 y4) (fun v20 => if v20 = 0 then lt (y3 - 0) (fun v21 => lt (y4 + 1) (fun v22 => LX12_walk_94 σ K k v21 v22)) else lt (y3 - 1) (fun v23 => lt (y4 + 1) (fun v24 => LX12_walk_94 σ K k v23 v24))))) (fun J17 => if v16 = 0 then J17 () else if y3 ≤ 0 then K y4 else J17 ())))
def LX12_walk_22 (n : Nat) (y1 : Int32) (K : SC → Option (Int32 × SC)) : Nat → SC → Option (Int32 × SC)
  | 0, _ => none
  | k + 1, σ => if y1 ≤ (gi σ 12) then K σ else LX12_walk_34 σ (fun w10 => if w10 = 0 then some ((gi σ 12), σ) else bd2 (f_X12_drawn σ w10) (fun v13 σ12 => LX12_walk_94 σ12 (fun w25 => bd (f_X12_does σ12 w25) (fun σ27 => LX12_walk_22 n y1 K k σ27)) n v13 0)) n 0 0
def f_X12_walk (n : Nat) (σ : SC) (a1 : Int32) : Option (Int32 × SC) := if (f_X12_in a1 1 40) = 0 then bd2 (f_X12_refused σ (-6)) (fun v31 σ30 => some (v31, σ30)) else lt (si σ 12 0) (fun σ1 => LX12_walk_22 n a1 (fun σ28 => some ((gi σ28 12), σ28)) n σ1)
theorem mi_X12_walk : MI yX12_walk cX12_walk 5 (some .int) 1 := ⟨im_X12_walk, se_X12_walk, in_X12, co_X12_walk, by decide, by decide, by decide +kernel⟩
set_option maxRecDepth 100000 in
set_option maxHeartbeats 4000000 in
theorem ct_X12_walk (l : Launch) (n : Nat) (G : EN) (A : Nat → Nat) (σ : SC) (sz : Nat) (a1 : Int32) {r0 : Int32} {σ0 : SC} (h : f_X12_walk n σ a1 = some (r0, σ0)) : CT l yX12_walk cX12_walk 5 (some .int) rmX12_walk G sz [.ref (A 0), .int a1] (wM G A σ) (QI G (va_A (wM G A σ) sz) r0 (wM G A σ0)) := by
  unfold f_X12_walk at h
  refine CI.intro (lv := [(0, .ref (A 0)), (1, .int a1)]) (by decide) (Nat.le_of_ble_eq_true rfl) rfl ?_
  intro p e s m args below meth c Q B S hret H locs ls hW hl
  have hx := S.1
  have hb := S.2.1
  refine lv_iload_n hx hb dX12_walk_0 rfl (lv_at hl 1 rfl) ?_
  refine lv_iconst (v := 1) hx hb dX12_walk_1 (by decide) ?_
  refine lv_bipush (v := 40) hx hb dX12_walk_2 (by decide) ?_
  refine back_i (rest := []) hW (run_S S hW (ct_X12_in l G A σ _ a1 1 40 rfl) ms_X12_in lk_X12_67 rfl rfl hl (Nat.le_of_ble_eq_true rfl) dX12_walk_4 ⟨Nat.le_of_ble_eq_true rfl, Nat.le_of_ble_eq_true rfl⟩ rfl rfl) (fun H locs hW => ?_)
  refine bz_ne (tgt := 17) hx hb h dX12_walk_7 (by decide) (fun _ h => ?_) (fun _ h => ?_)
  · refine lv_aload_n hx hb dX12_walk_10 rfl (lv_at hl 0 rfl) ?_
    refine lv_bipush (v := (-6)) hx hb dX12_walk_11 (by decide) ?_
    obtain ⟨v31, σ30, h29, h⟩ := bd2_o h
    refine back_i (rest := []) hW (run_V S hW (ct_X12_refused l G A σ _ (-6) h29) mi_X12_refused lk_X12_75 (eM_0 G A σ) rfl rfl rfl hl (Nat.le_of_ble_eq_true rfl) dX12_walk_13 ⟨Nat.le_of_ble_eq_true rfl, Nat.le_of_ble_eq_true rfl⟩ rfl rfl) (fun H locs hW => ?_)
    exact ret_is (wf := wM G A) hret h rfl hW dX12_walk_16
  · refine lv_aload_n hx hb dX12_walk_17 rfl (lv_at hl 0 rfl) ?_
    refine lv_iconst (v := 0) hx hb dX12_walk_18 (by decide) ?_
    refine pM_tracedMany S hW lk_X12_266 dX12_walk_19 (fun σ1 H locs eσ1 hW => ?_)
    have h := lt_at eσ1 h
    have hL22 : ∀ (y1 : Int32) (K : SC → Option (Int32 × SC)), (∀ (σ : SC) (H : Heap) (locs : List Loc) (ls : Array Slot), WS G B s (wM G A σ) H locs → lv_has ls 5 [(0, .ref (A 0))] → K σ = some (r0, σ0) → W p l e rmX12_walk s m args below meth c H locs 0 0 Q (F0 m 155 ls [])) → ∀ (k : Nat) (σ : SC)   (H : Heap) (locs : List Loc) (ls : Array Slot), WS G B s (wM G A σ) H locs → lv_has ls 5 [(0, .ref (A 0)), (1, .int y1)] → LX12_walk_22 n y1 K k σ = some (r0, σ0) → W p l e rmX12_walk s m args below meth c H locs 0 0 Q (F0 m 22 ls []) := by
      intro y1 K hK k
      induction k with
      | zero => intro σ H locs ls hW hl h; rw [LX12_walk_22] at h; cases h
      | succ k ih =>
        intro σ H locs ls hW hl h
        rw [LX12_walk_22] at h
        refine lv_aload_n hx hb dX12_walk_22 rfl (lv_at hl 0 rfl) ?_
        refine gM_tracedMany S hW lk_X12_266 dX12_walk_23 ?_
        refine lv_iload_n hx hb dX12_walk_26 rfl (lv_at hl 1 rfl) ?_
        refine bc_ge (tgt := 155) hx hb h dX12_walk_27 (by decide) (fun _ h => ?_) (fun _ h => ?_)
        · exact hK σ _ _ _ hW (lv_sub hl [0] rfl) h
        · refine lv_iconst (v := 0) hx hb dX12_walk_30 (by decide) ?_
          refine lv_istore_n (lv' := [(2, .int 0), (0, .ref (A 0)), (1, .int y1)]) hx hb dX12_walk_31 rfl hl (by decide) rfl (fun ls hl => ?_)
          refine lv_iconst (v := 0) hx hb dX12_walk_32 (by decide) ?_
          refine lv_istore_n (lv' := [(3, .int 0), (2, .int 0), (0, .ref (A 0)), (1, .int y1)]) hx hb dX12_walk_33 rfl hl (by decide) rfl (fun ls hl => ?_)
          have hL34 : ∀ (y1 : Int32) (σ : SC) (K : Int32 → Option (Int32 × SC)), (∀ (z2 : Int32) (H : Heap) (locs : List Loc) (ls : Array Slot), WS G B s (wM G A σ) H locs → lv_has ls 5 [(0, .ref (A 0)), (1, .int y1), (2, .int z2)] → K z2 = some (r0, σ0) → W p l e rmX12_walk s m args below meth c H locs 0 0 Q (F0 m 76 ls [])) → ∀ (k : Nat)  (y2 : Int32) (y3 : Int32)  (H : Heap) (locs : List Loc) (ls : Array Slot), WS G B s (wM G A σ) H locs → lv_has ls 5 [(0, .ref (A 0)), (1, .int y1), (2, .int y2), (3, .int y3)] → LX12_walk_34 σ K k y2 y3 = some (r0, σ0) → W p l e rmX12_walk s m args below meth c H locs 0 0 Q (F0 m 34 ls []) := by
            intro y1 σ K hK k
            induction k with
            | zero => intro y2 y3 H locs ls hW hl h; rw [LX12_walk_34] at h; cases h
            | succ k ih =>
              intro y2 y3 H locs ls hW hl h
              rw [LX12_walk_34] at h
              refine lv_iload_n hx hb dX12_walk_34 rfl (lv_at hl 3 rfl) ?_
              refine lv_aload_n hx hb dX12_walk_35 rfl (lv_at hl 0 rfl) ?_
              refine gM_s S hW lk_X12_7 dX12_walk_36 ?_
              refine lv_sipush (v := 172) hx hb dX12_walk_39 (by decide) ?_
              refine aM_1 S hW h dX12_walk_42 (fun v2 _ h => ?_)
              refine bc_ge (tgt := 76) hx hb h dX12_walk_43 (by decide) (fun _ h => ?_) (fun _ h => ?_)
              · exact hK y2 _ _ _ hW (lv_sub hl [0, 1, 2] rfl) h
              · refine lv_iload_n hx hb dX12_walk_46 rfl (lv_at hl 2 rfl) ?_
                refine lv_aload_n hx hb dX12_walk_47 rfl (lv_at hl 0 rfl) ?_
                refine lv_aload_n hx hb dX12_walk_48 rfl (lv_at hl 0 rfl) ?_
                refine gM_s S hW lk_X12_7 dX12_walk_49 ?_
                refine lv_sipush (v := 170) hx hb dX12_walk_52 (by decide) ?_
                refine aM_1 S hW h dX12_walk_55 (fun v3 _ h => ?_)
                refine lv_iload_n hx hb dX12_walk_56 rfl (lv_at hl 3 rfl) ?_
                obtain ⟨v5, h4, h⟩ := bd_o h
                refine back_i (rest := [.int y2]) hW (run_V S hW (ct_X12_mayBe l G A σ _ v3 y3 h4) mi_X12_mayBe lk_X12_165 (eM_0 G A σ) rfl rfl rfl hl (Nat.le_of_ble_eq_true rfl) dX12_walk_57 ⟨Nat.le_of_ble_eq_true rfl, Nat.le_of_ble_eq_true rfl⟩ rfl rfl) (fun H locs hW => ?_)
                refine bz_eq (tgt := 67) hx hb h dX12_walk_60 (by decide) (fun _ h => ?_) (fun _ h => ?_)
                · refine lv_iconst (v := 0) hx hb dX12_walk_67 (by decide) ?_
                  refine lv_iadd hx hb dX12_walk_68 ?_
                  refine nm_i h (fun v6 h => ?_)
                  refine lv_istore_n (lv' := [(2, .int v6), (0, .ref (A 0)), (1, .int y1), (3, .int y3)]) hx hb dX12_walk_69 rfl hl (by decide) rfl (fun ls hl => ?_)
                  refine w_iinc (lv' := [(2, .int v6), (0, .ref (A 0)), (1, .int y1)]) hx hb dX12_walk_70 hl (k := 3) rfl (by decide) (by decide) rfl h (fun v7 ls hl h => ?_)
                  refine lv_goto (tgt := 34) hx hb dX12_walk_73 (by decide) ?_
                  exact ih v6 v7 _ _ _ hW (lv_sub hl [2, 3, 1, 0] rfl) h
                · refine lv_iconst (v := 1) hx hb dX12_walk_63 (by decide) ?_
                  refine lv_goto (tgt := 68) hx hb dX12_walk_64 (by decide) ?_
                  refine lv_iadd hx hb dX12_walk_68 ?_
                  refine nm_i h (fun v8 h => ?_)
                  refine lv_istore_n (lv' := [(2, .int v8), (0, .ref (A 0)), (1, .int y1), (3, .int y3)]) hx hb dX12_walk_69 rfl hl (by decide) rfl (fun ls hl => ?_)
                  refine w_iinc (lv' := [(2, .int v8), (0, .ref (A 0)), (1, .int y1)]) hx hb dX12_walk_70 hl (k := 3) rfl (by decide) (by decide) rfl h (fun v9 ls hl h => ?_)
                  refine lv_goto (tgt := 34) hx hb dX12_walk_73 (by decide) ?_
                  exact ih v8 v9 _ _ _ hW (lv_sub hl [2, 3, 1, 0] rfl) h
          refine hL34 y1 σ _ (fun w10 H locs ls hW hl h => ?_) n 0 0 _ _ _ hW (lv_sub hl [2, 3, 1, 0] rfl) h
          refine lv_iload_n hx hb dX12_walk_76 rfl (lv_at hl 2 rfl) ?_
          refine bz_ne (tgt := 85) hx hb h dX12_walk_77 (by decide) (fun _ h => ?_) (fun _ h => ?_)
          · refine lv_aload_n hx hb dX12_walk_80 rfl (lv_at hl 0 rfl) ?_
            refine gM_tracedMany S hW lk_X12_266 dX12_walk_81 ?_
            exact ret_is (wf := wM G A) hret h rfl hW dX12_walk_84
          · refine lv_aload_n hx hb dX12_walk_85 rfl (lv_at hl 0 rfl) ?_
            refine lv_iload_n hx hb dX12_walk_86 rfl (lv_at hl 2 rfl) ?_
            obtain ⟨v13, σ12, h11, h⟩ := bd2_o h
            refine back_i (rest := []) hW (run_V S hW (ct_X12_drawn l G A σ _ w10 h11) mi_X12_drawn lk_X12_274 (eM_0 G A σ) rfl rfl rfl hl (Nat.le_of_ble_eq_true rfl) dX12_walk_87 ⟨Nat.le_of_ble_eq_true rfl, Nat.le_of_ble_eq_true rfl⟩ rfl rfl) (fun H locs hW => ?_)
            refine lv_istore_n (lv' := [(3, .int v13), (0, .ref (A 0)), (1, .int y1), (2, .int w10)]) hx hb dX12_walk_90 rfl hl (by decide) rfl (fun ls hl => ?_)
            refine lv_iconst (v := 0) hx hb dX12_walk_91 (by decide) ?_
            refine lv_istore (lv' := [(4, .int 0), (3, .int v13), (0, .ref (A 0)), (1, .int y1), (2, .int w10)]) hx hb dX12_walk_92 hl (by decide) rfl (fun ls hl => ?_)
            have hL94 : ∀ (y1 : Int32) (σ : SC) (K : Int32 → Option (Int32 × SC)), (∀ (z4 : Int32) (H : Heap) (locs : List Loc) (ls : Array Slot), WS G B s (wM G A σ) H locs → lv_has ls 5 [(0, .ref (A 0)), (1, .int y1), (4, .int z4)] → K z4 = some (r0, σ0) → W p l e rmX12_walk s m args below meth c H locs 0 0 Q (F0 m 146 ls [])) → ∀ (k : Nat)  (y3 : Int32) (y4 : Int32)  (H : Heap) (locs : List Loc) (ls : Array Slot), WS G B s (wM G A σ) H locs → lv_has ls 5 [(0, .ref (A 0)), (1, .int y1), (3, .int y3), (4, .int y4)] → LX12_walk_94 σ K k y3 y4 = some (r0, σ0) → W p l e rmX12_walk s m args below meth c H locs 0 0 Q (F0 m 94 ls []) := by
              intro y1 σ K hK k
              induction k with
              | zero => intro y3 y4 H locs ls hW hl h; rw [LX12_walk_94] at h; cases h
              | succ k ih =>
                intro y3 y4 H locs ls hW hl h
                rw [LX12_walk_94] at h
                refine lv_aload_n hx hb dX12_walk_94 rfl (lv_at hl 0 rfl) ?_
                refine lv_aload_n hx hb dX12_walk_95 rfl (lv_at hl 0 rfl) ?_
                refine gM_s S hW lk_X12_7 dX12_walk_96 ?_
                refine lv_sipush (v := 170) hx hb dX12_walk_99 (by decide) ?_
                refine aM_1 S hW h dX12_walk_102 (fun v14 _ h => ?_)
                refine lv_iload hx hb dX12_walk_103 (lv_at hl 3 rfl) ?_
                obtain ⟨v16, h15, h⟩ := bd_o h
                refine back_i (rest := []) hW (run_V S hW (ct_X12_mayBe l G A σ _ v14 y4 h15) mi_X12_mayBe lk_X12_165 (eM_0 G A σ) rfl rfl rfl hl (Nat.le_of_ble_eq_true rfl) dX12_walk_105 ⟨Nat.le_of_ble_eq_true rfl, Nat.le_of_ble_eq_true rfl⟩ rfl rfl) (fun H locs hW => ?_)
                obtain ⟨J17, eJ17, h⟩ := jn_o h
                have hJ17 : ∀   (H : Heap) (locs : List Loc) (ls : Array Slot), WS G B s (wM G A σ) H locs → lv_has ls 5 [(0, .ref (A 0)), (1, .int y1), (3, .int y3), (4, .int y4)] → J17 () = some (r0, σ0) → W p l e rmX12_walk s m args below meth c H locs 0 0 Q (F0 m 115 ls []) := by
                  subst eJ17
                  intro  H locs ls hW hl h
                  refine lv_iload_n hx hb dX12_walk_115 rfl (lv_at hl 2 rfl) ?_
                  refine lv_aload_n hx hb dX12_walk_116 rfl (lv_at hl 0 rfl) ?_
                  refine lv_aload_n hx hb dX12_walk_117 rfl (lv_at hl 0 rfl) ?_
                  refine gM_s S hW lk_X12_7 dX12_walk_118 ?_
                  refine lv_sipush (v := 170) hx hb dX12_walk_121 (by decide) ?_
                  refine aM_1 S hW h dX12_walk_124 (fun v18 _ h => ?_)
                  refine lv_iload hx hb dX12_walk_125 (lv_at hl 3 rfl) ?_
                  obtain ⟨v20, h19, h⟩ := bd_o h
                  refine back_i (rest := [.int y3]) hW (run_V S hW (ct_X12_mayBe l G A σ _ v18 y4 h19) mi_X12_mayBe lk_X12_165 (eM_0 G A σ) rfl rfl rfl hl (Nat.le_of_ble_eq_true rfl) dX12_walk_127 ⟨Nat.le_of_ble_eq_true rfl, Nat.le_of_ble_eq_true rfl⟩ rfl rfl) (fun H locs hW => ?_)
                  refine bz_eq (tgt := 137) hx hb h dX12_walk_130 (by decide) (fun _ h => ?_) (fun _ h => ?_)
                  · refine lv_iconst (v := 0) hx hb dX12_walk_137 (by decide) ?_
                    refine lv_isub hx hb dX12_walk_138 ?_
                    refine nm_i h (fun v21 h => ?_)
                    refine lv_istore_n (lv' := [(3, .int v21), (0, .ref (A 0)), (1, .int y1), (4, .int y4)]) hx hb dX12_walk_139 rfl hl (by decide) rfl (fun ls hl => ?_)
                    refine w_iinc (lv' := [(3, .int v21), (0, .ref (A 0)), (1, .int y1)]) hx hb dX12_walk_140 hl (k := 3) rfl (by decide) (by decide) rfl h (fun v22 ls hl h => ?_)
                    refine lv_goto (tgt := 94) hx hb dX12_walk_143 (by decide) ?_
                    exact ih v21 v22 _ _ _ hW (lv_sub hl [2, 3, 1, 0] rfl) h
                  · refine lv_iconst (v := 1) hx hb dX12_walk_133 (by decide) ?_
                    refine lv_goto (tgt := 138) hx hb dX12_walk_134 (by decide) ?_
                    refine lv_isub hx hb dX12_walk_138 ?_
                    refine nm_i h (fun v23 h => ?_)
                    refine lv_istore_n (lv' := [(3, .int v23), (0, .ref (A 0)), (1, .int y1), (4, .int y4)]) hx hb dX12_walk_139 rfl hl (by decide) rfl (fun ls hl => ?_)
                    refine w_iinc (lv' := [(3, .int v23), (0, .ref (A 0)), (1, .int y1)]) hx hb dX12_walk_140 hl (k := 3) rfl (by decide) (by decide) rfl h (fun v24 ls hl h => ?_)
                    refine lv_goto (tgt := 94) hx hb dX12_walk_143 (by decide) ?_
                    exact ih v23 v24 _ _ _ hW (lv_sub hl [2, 3, 1, 0] rfl) h
                clear eJ17
                refine bz_eq (tgt := 115) hx hb h dX12_walk_108 (by decide) (fun _ h => ?_) (fun _ h => ?_)
                · exact hJ17  _ _ _ hW (hl) h
                · refine lv_iload_n hx hb dX12_walk_111 rfl (lv_at hl 2 rfl) ?_
                  refine bz_le (tgt := 146) hx hb h dX12_walk_112 (by decide) (fun _ h => ?_) (fun _ h => ?_)
                  · exact hK y4 _ _ _ hW (lv_sub hl [0, 1, 3] rfl) h
                  · exact hJ17  _ _ _ hW (hl) h
            refine hL94 y1 σ12 _ (fun w25 H locs ls hW hl h => ?_) n v13 0 _ _ _ hW (lv_sub hl [2, 3, 1, 0] rfl) h
            refine lv_aload_n hx hb dX12_walk_146 rfl (lv_at hl 0 rfl) ?_
            refine lv_iload hx hb dX12_walk_147 (lv_at hl 2 rfl) ?_
            obtain ⟨σ27, h26, h⟩ := bd_o h
            refine back_v (rest := []) hW (run_V S hW (ct_X12_does l G A σ12 _ w25 h26) mi_X12_does lk_X12_270 (eM_0 G A σ12) rfl rfl rfl hl (Nat.le_of_ble_eq_true rfl) dX12_walk_149 ⟨Nat.le_of_ble_eq_true rfl, Nat.le_of_ble_eq_true rfl⟩ rfl rfl) (fun H locs hW => ?_)
            refine lv_goto (tgt := 22) hx hb dX12_walk_152 (by decide) ?_
            exact ih σ27 _ _ _ hW (lv_sub hl [0, 1] rfl) h
    refine hL22 a1 _ (fun σ28 H locs ls hW hl h => ?_) n σ1 _ _ _ hW (hl) h
    refine lv_aload_n hx hb dX12_walk_155 rfl (lv_at hl 0 rfl) ?_
    refine gM_tracedMany S hW lk_X12_266 dX12_walk_156 ?_
    exact ret_is (wf := wM G A) hret h rfl hW dX12_walk_159
def rmX12_seed : Room := { frames := 0, cells := 0, slots := 0, locals := 0 }
def f_X12_seed (σ : SC) (a1 : Int32) : Option (Int32 × SC) := ld (ga σ 0) 173 171 (fun v1 => ck 173 171 (lt (sa σ 0 (upd (ga σ 0) (171 : Int32).toNatClampNeg a1)) (fun σ2 => some (v1, σ2))))
theorem mi_X12_seed : MI yX12_seed cX12_seed 3 (some .int) 1 := ⟨im_X12_seed, se_X12_seed, in_X12, co_X12_seed, by decide, by decide, by decide +kernel⟩
set_option maxRecDepth 100000 in
set_option maxHeartbeats 4000000 in
theorem ct_X12_seed (l : Launch) (G : EN) (A : Nat → Nat) (σ : SC) (sz : Nat) (a1 : Int32) {r0 : Int32} {σ0 : SC} (h : f_X12_seed σ a1 = some (r0, σ0)) : CT l yX12_seed cX12_seed 3 (some .int) rmX12_seed G sz [.ref (A 0), .int a1] (wM G A σ) (QI G (va_A (wM G A σ) sz) r0 (wM G A σ0)) := by
  unfold f_X12_seed at h
  refine CI.intro (lv := [(0, .ref (A 0)), (1, .int a1)]) (by decide) (Nat.le_of_ble_eq_true rfl) rfl ?_
  intro p e s m args below meth c Q B S hret H locs ls hW hl
  have hx := S.1
  have hb := S.2.1
  refine lv_aload_n hx hb dX12_seed_0 rfl (lv_at hl 0 rfl) ?_
  refine gM_s S hW lk_X12_7 dX12_seed_1 ?_
  refine lv_sipush (v := 171) hx hb dX12_seed_4 (by decide) ?_
  refine aM_1 S hW h dX12_seed_7 (fun v1 _ h => ?_)
  refine lv_istore_n (lv' := [(2, .int v1), (0, .ref (A 0)), (1, .int a1)]) hx hb dX12_seed_8 rfl hl (by decide) rfl (fun ls hl => ?_)
  refine lv_aload_n hx hb dX12_seed_9 rfl (lv_at hl 1 rfl) ?_
  refine gM_s S hW lk_X12_7 dX12_seed_10 ?_
  refine lv_sipush (v := 171) hx hb dX12_seed_13 (by decide) ?_
  refine lv_iload_n hx hb dX12_seed_16 rfl (lv_at hl 2 rfl) ?_
  refine sM_1 S hW h dX12_seed_17 (fun σ2 H locs eσ2 _ h hW => ?_)
  have h := lt_at eσ2 h
  refine lv_iload_n hx hb dX12_seed_18 rfl (lv_at hl 0 rfl) ?_
  exact ret_is (wf := wM G A) hret h rfl hW dX12_seed_19
def rmX12_trace : Room := { frames := 1, cells := 0, slots := 0, locals := 22 }
def f_X12_trace (σ : SC) (a1 : Int32) : Option Int32 := if (f_X12_in a1 0 ((gi σ 12) - 1)) = 0 then some (-1) else ld (ga σ 13) 40 a1 (fun v1 => some v1)
theorem mi_X12_trace : MI yX12_trace cX12_trace 2 (some .int) 1 := ⟨im_X12_trace, se_X12_trace, in_X12, co_X12_trace, by decide, by decide, by decide +kernel⟩
set_option maxRecDepth 100000 in
set_option maxHeartbeats 4000000 in
theorem ct_X12_trace (l : Launch) (G : EN) (A : Nat → Nat) (σ : SC) (sz : Nat) (a1 : Int32) {r0 : Int32} (h : f_X12_trace σ a1 = some r0) : CT l yX12_trace cX12_trace 2 (some .int) rmX12_trace G sz [.ref (A 0), .int a1] (wM G A σ) (QI G (va_A (wM G A σ) sz) r0 (wM G A σ)) := by
  unfold f_X12_trace at h
  refine CI.intro (lv := [(0, .ref (A 0)), (1, .int a1)]) (by decide) (Nat.le_of_ble_eq_true rfl) rfl ?_
  intro p e s m args below meth c Q B S hret H locs ls hW hl
  have hx := S.1
  have hb := S.2.1
  refine lv_iload_n hx hb dX12_trace_0 rfl (lv_at hl 1 rfl) ?_
  refine lv_iconst (v := 0) hx hb dX12_trace_1 (by decide) ?_
  refine lv_aload_n hx hb dX12_trace_2 rfl (lv_at hl 0 rfl) ?_
  refine gM_tracedMany S hW lk_X12_266 dX12_trace_3 ?_
  refine lv_iconst (v := 1) hx hb dX12_trace_6 (by decide) ?_
  refine lv_isub hx hb dX12_trace_7 ?_
  refine back_i (rest := []) hW (run_S S hW (ct_X12_in l G A σ _ a1 0 ((gi σ 12) - 1) rfl) ms_X12_in lk_X12_67 rfl rfl hl (Nat.le_of_ble_eq_true rfl) dX12_trace_8 ⟨Nat.le_of_ble_eq_true rfl, Nat.le_of_ble_eq_true rfl⟩ rfl rfl) (fun H locs hW => ?_)
  refine bz_eq (tgt := 23) hx hb h dX12_trace_11 (by decide) (fun _ h => ?_) (fun _ h => ?_)
  · refine lv_iconst (v := (-1)) hx hb dX12_trace_23 (by decide) ?_
    exact hret H locs _ ls _ (Option.some.inj h) rfl hW dX12_trace_24
  · refine lv_aload_n hx hb dX12_trace_14 rfl (lv_at hl 0 rfl) ?_
    refine gM_traced S hW lk_X12_60 dX12_trace_15 ?_
    refine lv_iload_n hx hb dX12_trace_18 rfl (lv_at hl 1 rfl) ?_
    refine aM_16 S hW h dX12_trace_19 (fun v1 _ h => ?_)
    refine lv_goto (tgt := 24) hx hb dX12_trace_20 (by decide) ?_
    exact hret H locs _ ls _ (Option.some.inj h) rfl hW dX12_trace_24
def rmX12_image : Room := { frames := 0, cells := 0, slots := 0, locals := 0 }
def LX12_image_2 (K : SC → Option (Int32 × SC)) : Nat → SC → Int32 → Option (Int32 × SC)
  | 0, _, _ => none
  | k + 1, σ, y1 => if 173 ≤ y1 then K σ else ld (ga σ 0) 173 y1 (fun v1 => ck 173 y1 (lt (sa σ 1 (upd (ga σ 1) y1.toNatClampNeg v1)) (fun σ2 => lt (y1 + 1) (fun v3 => LX12_image_2 K k σ2 v3))))
def f_X12_image (n : Nat) (σ : SC) : Option (Int32 × SC) := LX12_image_2 (fun σ4 => lt (si σ4 1 1) (fun σ5 => ld (ga σ5 0) 173 172 (fun v6 => some (v6, σ5)))) n σ 0
theorem mi_X12_image : MI yX12_image cX12_image 2 (some .int) 0 := ⟨im_X12_image, se_X12_image, in_X12, co_X12_image, by decide, by decide, by decide +kernel⟩
set_option maxRecDepth 100000 in
set_option maxHeartbeats 4000000 in
theorem ct_X12_image (l : Launch) (n : Nat) (G : EN) (A : Nat → Nat) (σ : SC) (sz : Nat) {r0 : Int32} {σ0 : SC} (h : f_X12_image n σ = some (r0, σ0)) : CT l yX12_image cX12_image 2 (some .int) rmX12_image G sz [.ref (A 0)] (wM G A σ) (QI G (va_A (wM G A σ) sz) r0 (wM G A σ0)) := by
  unfold f_X12_image at h
  refine CI.intro (lv := [(0, .ref (A 0))]) (by decide) (Nat.le_of_ble_eq_true rfl) rfl ?_
  intro p e s m args below meth c Q B S hret H locs ls hW hl
  have hx := S.1
  have hb := S.2.1
  refine lv_iconst (v := 0) hx hb dX12_image_0 (by decide) ?_
  refine lv_istore_n (lv' := [(1, .int 0), (0, .ref (A 0))]) hx hb dX12_image_1 rfl hl (by decide) rfl (fun ls hl => ?_)
  have hL2 : ∀  (K : SC → Option (Int32 × SC)), (∀ (σ : SC) (H : Heap) (locs : List Loc) (ls : Array Slot), WS G B s (wM G A σ) H locs → lv_has ls 2 [(0, .ref (A 0))] → K σ = some (r0, σ0) → W p l e rmX12_image s m args below meth c H locs 0 0 Q (F0 m 27 ls [])) → ∀ (k : Nat) (σ : SC) (y1 : Int32)  (H : Heap) (locs : List Loc) (ls : Array Slot), WS G B s (wM G A σ) H locs → lv_has ls 2 [(0, .ref (A 0)), (1, .int y1)] → LX12_image_2 K k σ y1 = some (r0, σ0) → W p l e rmX12_image s m args below meth c H locs 0 0 Q (F0 m 2 ls []) := by
    intro  K hK k
    induction k with
    | zero => intro σ y1 H locs ls hW hl h; rw [LX12_image_2] at h; cases h
    | succ k ih =>
      intro σ y1 H locs ls hW hl h
      rw [LX12_image_2] at h
      refine lv_iload_n hx hb dX12_image_2 rfl (lv_at hl 1 rfl) ?_
      refine lv_sipush (v := 173) hx hb dX12_image_3 (by decide) ?_
      refine bc_ge (tgt := 27) hx hb h dX12_image_6 (by decide) (fun _ h => ?_) (fun _ h => ?_)
      · exact hK σ _ _ _ hW (lv_sub hl [0] rfl) h
      · refine lv_aload_n hx hb dX12_image_9 rfl (lv_at hl 0 rfl) ?_
        refine gM_image S hW lk_X12_13 dX12_image_10 ?_
        refine lv_iload_n hx hb dX12_image_13 rfl (lv_at hl 1 rfl) ?_
        refine lv_aload_n hx hb dX12_image_14 rfl (lv_at hl 0 rfl) ?_
        refine gM_s S hW lk_X12_7 dX12_image_15 ?_
        refine lv_iload_n hx hb dX12_image_18 rfl (lv_at hl 1 rfl) ?_
        refine aM_1 S hW h dX12_image_19 (fun v1 _ h => ?_)
        refine sM_2 S hW h dX12_image_20 (fun σ2 H locs eσ2 _ h hW => ?_)
        have h := lt_at eσ2 h
        refine w_iinc (lv' := [(0, .ref (A 0))]) hx hb dX12_image_21 hl (k := 1) rfl (by decide) (by decide) rfl h (fun v3 ls hl h => ?_)
        refine lv_goto (tgt := 2) hx hb dX12_image_24 (by decide) ?_
        exact ih σ2 v3 _ _ _ hW (lv_sub hl [1, 0] rfl) h
  refine hL2  _ (fun σ4 H locs ls hW hl h => ?_) n σ 0 _ _ _ hW (lv_sub hl [1, 0] rfl) h
  refine lv_aload_n hx hb dX12_image_27 rfl (lv_at hl 0 rfl) ?_
  refine lv_iconst (v := 1) hx hb dX12_image_28 (by decide) ?_
  refine pM_hasImage (Or.inr rfl) S hW lk_X12_277 dX12_image_29 (fun σ5 H locs eσ5 hW => ?_)
  have h := lt_at eσ5 h
  refine lv_aload_n hx hb dX12_image_32 rfl (lv_at hl 0 rfl) ?_
  refine gM_s S hW lk_X12_7 dX12_image_33 ?_
  refine lv_sipush (v := 172) hx hb dX12_image_36 (by decide) ?_
  refine aM_1 S hW h dX12_image_39 (fun v6 _ h => ?_)
  exact ret_is (wf := wM G A) hret h rfl hW dX12_image_40
def rmX12_restore : Room := { frames := 2, cells := 0, slots := 0, locals := 43 }
def LX12_restore_16 (K : SC → Option (Int32 × SC)) : Nat → SC → Int32 → Option (Int32 × SC)
  | 0, _, _ => none
  | k + 1, σ, y1 => if 173 ≤ y1 then K σ else ld (ga σ 1) 173 y1 (fun v1 => ck 173 y1 (lt (sa σ 0 (upd (ga σ 0) y1.toNatClampNeg v1)) (fun σ2 => lt (y1 + 1) (fun v3 => LX12_restore_16 K k σ2 v3))))
def LX12_restore_43 (K : SC → Option (Int32 × SC)) : Nat → SC → Int32 → Option (Int32 × SC)
  | 0, _, _ => none
  | k + 1, σ, y1 => if 8 ≤ y1 then K σ else ld (ga σ 3) 8 y1 (fun v5 => if v5 = 4 then ld (ga σ 4) 8 y1 (fun v7 => bd (f_X12_isAction σ v7) (fun v9 => if v9 = 0 then ck 8 y1 (lt (sa σ 3 (upd (ga σ 3) y1.toNatClampNeg (-1))) (fun σ11 => lt (y1 + 1) (fun v12 => LX12_restore_43 K k σ11 v12))) else lt (y1 + 1) (fun v10 => LX12_restore_43 K k σ v10))) else lt (y1 + 1) (fun v6 => LX12_restore_43 K k σ v6))
def f_X12_restore (n : Nat) (σ : SC) : Option (Int32 × SC) := if (gi σ 1) = 0 then bd2 (f_X12_refused σ (-6)) (fun v17 σ16 => some (v17, σ16)) else LX12_restore_16 (fun σ4 => LX12_restore_43 (fun σ13 => ld (ga σ13 0) 173 172 (fun v14 => some (v14, σ13))) n σ4 0) n σ 0
theorem mi_X12_restore : MI yX12_restore cX12_restore 2 (some .int) 0 := ⟨im_X12_restore, se_X12_restore, in_X12, co_X12_restore, by decide, by decide, by decide +kernel⟩
set_option maxRecDepth 100000 in
set_option maxHeartbeats 4000000 in
theorem ct_X12_restore (l : Launch) (n : Nat) (G : EN) (A : Nat → Nat) (σ : SC) (sz : Nat) {r0 : Int32} {σ0 : SC} (h : f_X12_restore n σ = some (r0, σ0)) : CT l yX12_restore cX12_restore 2 (some .int) rmX12_restore G sz [.ref (A 0)] (wM G A σ) (QI G (va_A (wM G A σ) sz) r0 (wM G A σ0)) := by
  unfold f_X12_restore at h
  refine CI.intro (lv := [(0, .ref (A 0))]) (by decide) (Nat.le_of_ble_eq_true rfl) rfl ?_
  intro p e s m args below meth c Q B S hret H locs ls hW hl
  have hx := S.1
  have hb := S.2.1
  refine lv_aload_n hx hb dX12_restore_0 rfl (lv_at hl 0 rfl) ?_
  refine gM_hasImage S hW lk_X12_277 dX12_restore_1 ?_
  refine bz_ne (tgt := 14) hx hb h dX12_restore_4 (by decide) (fun _ h => ?_) (fun _ h => ?_)
  · refine lv_aload_n hx hb dX12_restore_7 rfl (lv_at hl 0 rfl) ?_
    refine lv_bipush (v := (-6)) hx hb dX12_restore_8 (by decide) ?_
    obtain ⟨v17, σ16, h15, h⟩ := bd2_o h
    refine back_i (rest := []) hW (run_V S hW (ct_X12_refused l G A σ _ (-6) h15) mi_X12_refused lk_X12_75 (eM_0 G A σ) rfl rfl rfl hl (Nat.le_of_ble_eq_true rfl) dX12_restore_10 ⟨Nat.le_of_ble_eq_true rfl, Nat.le_of_ble_eq_true rfl⟩ rfl rfl) (fun H locs hW => ?_)
    exact ret_is (wf := wM G A) hret h rfl hW dX12_restore_13
  · refine lv_iconst (v := 0) hx hb dX12_restore_14 (by decide) ?_
    refine lv_istore_n (lv' := [(1, .int 0), (0, .ref (A 0))]) hx hb dX12_restore_15 rfl hl (by decide) rfl (fun ls hl => ?_)
    have hL16 : ∀  (K : SC → Option (Int32 × SC)), (∀ (σ : SC) (H : Heap) (locs : List Loc) (ls : Array Slot), WS G B s (wM G A σ) H locs → lv_has ls 2 [(0, .ref (A 0))] → K σ = some (r0, σ0) → W p l e rmX12_restore s m args below meth c H locs 0 0 Q (F0 m 41 ls [])) → ∀ (k : Nat) (σ : SC) (y1 : Int32)  (H : Heap) (locs : List Loc) (ls : Array Slot), WS G B s (wM G A σ) H locs → lv_has ls 2 [(0, .ref (A 0)), (1, .int y1)] → LX12_restore_16 K k σ y1 = some (r0, σ0) → W p l e rmX12_restore s m args below meth c H locs 0 0 Q (F0 m 16 ls []) := by
      intro  K hK k
      induction k with
      | zero => intro σ y1 H locs ls hW hl h; rw [LX12_restore_16] at h; cases h
      | succ k ih =>
        intro σ y1 H locs ls hW hl h
        rw [LX12_restore_16] at h
        refine lv_iload_n hx hb dX12_restore_16 rfl (lv_at hl 1 rfl) ?_
        refine lv_sipush (v := 173) hx hb dX12_restore_17 (by decide) ?_
        refine bc_ge (tgt := 41) hx hb h dX12_restore_20 (by decide) (fun _ h => ?_) (fun _ h => ?_)
        · exact hK σ _ _ _ hW (lv_sub hl [0] rfl) h
        · refine lv_aload_n hx hb dX12_restore_23 rfl (lv_at hl 0 rfl) ?_
          refine gM_s S hW lk_X12_7 dX12_restore_24 ?_
          refine lv_iload_n hx hb dX12_restore_27 rfl (lv_at hl 1 rfl) ?_
          refine lv_aload_n hx hb dX12_restore_28 rfl (lv_at hl 0 rfl) ?_
          refine gM_image S hW lk_X12_13 dX12_restore_29 ?_
          refine lv_iload_n hx hb dX12_restore_32 rfl (lv_at hl 1 rfl) ?_
          refine aM_2 S hW h dX12_restore_33 (fun v1 _ h => ?_)
          refine sM_1 S hW h dX12_restore_34 (fun σ2 H locs eσ2 _ h hW => ?_)
          have h := lt_at eσ2 h
          refine w_iinc (lv' := [(0, .ref (A 0))]) hx hb dX12_restore_35 hl (k := 1) rfl (by decide) (by decide) rfl h (fun v3 ls hl h => ?_)
          refine lv_goto (tgt := 16) hx hb dX12_restore_38 (by decide) ?_
          exact ih σ2 v3 _ _ _ hW (lv_sub hl [1, 0] rfl) h
    refine hL16  _ (fun σ4 H locs ls hW hl h => ?_) n σ 0 _ _ _ hW (lv_sub hl [1, 0] rfl) h
    refine lv_iconst (v := 0) hx hb dX12_restore_41 (by decide) ?_
    refine lv_istore_n (lv' := [(1, .int 0), (0, .ref (A 0))]) hx hb dX12_restore_42 rfl hl (by decide) rfl (fun ls hl => ?_)
    have hL43 : ∀  (K : SC → Option (Int32 × SC)), (∀ (σ : SC) (H : Heap) (locs : List Loc) (ls : Array Slot), WS G B s (wM G A σ) H locs → lv_has ls 2 [(0, .ref (A 0))] → K σ = some (r0, σ0) → W p l e rmX12_restore s m args below meth c H locs 0 0 Q (F0 m 85 ls [])) → ∀ (k : Nat) (σ : SC) (y1 : Int32)  (H : Heap) (locs : List Loc) (ls : Array Slot), WS G B s (wM G A σ) H locs → lv_has ls 2 [(0, .ref (A 0)), (1, .int y1)] → LX12_restore_43 K k σ y1 = some (r0, σ0) → W p l e rmX12_restore s m args below meth c H locs 0 0 Q (F0 m 43 ls []) := by
      intro  K hK k
      induction k with
      | zero => intro σ y1 H locs ls hW hl h; rw [LX12_restore_43] at h; cases h
      | succ k ih =>
        intro σ y1 H locs ls hW hl h
        rw [LX12_restore_43] at h
        refine lv_iload_n hx hb dX12_restore_43 rfl (lv_at hl 1 rfl) ?_
        refine lv_bipush (v := 8) hx hb dX12_restore_44 (by decide) ?_
        refine bc_ge (tgt := 85) hx hb h dX12_restore_46 (by decide) (fun _ h => ?_) (fun _ h => ?_)
        · exact hK σ _ _ _ hW (lv_sub hl [0] rfl) h
        · refine lv_aload_n hx hb dX12_restore_49 rfl (lv_at hl 0 rfl) ?_
          refine gM_sorts S hW lk_X12_19 dX12_restore_50 ?_
          refine lv_iload_n hx hb dX12_restore_53 rfl (lv_at hl 1 rfl) ?_
          refine aM_4 S hW h dX12_restore_54 (fun v5 _ h => ?_)
          refine lv_iconst (v := 4) hx hb dX12_restore_55 (by decide) ?_
          refine bc_ne (tgt := 79) hx hb h dX12_restore_56 (by decide) (fun _ h => ?_) (fun _ h => ?_)
          · refine lv_aload_n hx hb dX12_restore_59 rfl (lv_at hl 0 rfl) ?_
            refine lv_aload_n hx hb dX12_restore_60 rfl (lv_at hl 0 rfl) ?_
            refine gM_sizes S hW lk_X12_22 dX12_restore_61 ?_
            refine lv_iload_n hx hb dX12_restore_64 rfl (lv_at hl 1 rfl) ?_
            refine aM_5 S hW h dX12_restore_65 (fun v7 _ h => ?_)
            obtain ⟨v9, h8, h⟩ := bd_o h
            refine back_i (rest := []) hW (run_V S hW (ct_X12_isAction l G A σ _ v7 h8) mi_X12_isAction lk_X12_85 (eM_0 G A σ) rfl rfl rfl hl (Nat.le_of_ble_eq_true rfl) dX12_restore_66 ⟨Nat.le_of_ble_eq_true rfl, Nat.le_of_ble_eq_true rfl⟩ rfl rfl) (fun H locs hW => ?_)
            refine bz_ne (tgt := 79) hx hb h dX12_restore_69 (by decide) (fun _ h => ?_) (fun _ h => ?_)
            · refine lv_aload_n hx hb dX12_restore_72 rfl (lv_at hl 0 rfl) ?_
              refine gM_sorts S hW lk_X12_19 dX12_restore_73 ?_
              refine lv_iload_n hx hb dX12_restore_76 rfl (lv_at hl 1 rfl) ?_
              refine lv_iconst (v := (-1)) hx hb dX12_restore_77 (by decide) ?_
              refine sM_4 S hW h dX12_restore_78 (fun σ11 H locs eσ11 _ h hW => ?_)
              have h := lt_at eσ11 h
              refine w_iinc (lv' := [(0, .ref (A 0))]) hx hb dX12_restore_79 hl (k := 1) rfl (by decide) (by decide) rfl h (fun v12 ls hl h => ?_)
              refine lv_goto (tgt := 43) hx hb dX12_restore_82 (by decide) ?_
              exact ih σ11 v12 _ _ _ hW (lv_sub hl [1, 0] rfl) h
            · refine w_iinc (lv' := [(0, .ref (A 0))]) hx hb dX12_restore_79 hl (k := 1) rfl (by decide) (by decide) rfl h (fun v10 ls hl h => ?_)
              refine lv_goto (tgt := 43) hx hb dX12_restore_82 (by decide) ?_
              exact ih σ v10 _ _ _ hW (lv_sub hl [1, 0] rfl) h
          · refine w_iinc (lv' := [(0, .ref (A 0))]) hx hb dX12_restore_79 hl (k := 1) rfl (by decide) (by decide) rfl h (fun v6 ls hl h => ?_)
            refine lv_goto (tgt := 43) hx hb dX12_restore_82 (by decide) ?_
            exact ih σ v6 _ _ _ hW (lv_sub hl [1, 0] rfl) h
    refine hL43  _ (fun σ13 H locs ls hW hl h => ?_) n σ4 0 _ _ _ hW (lv_sub hl [1, 0] rfl) h
    refine lv_aload_n hx hb dX12_restore_85 rfl (lv_at hl 0 rfl) ?_
    refine gM_s S hW lk_X12_7 dX12_restore_86 ?_
    refine lv_sipush (v := 172) hx hb dX12_restore_89 (by decide) ?_
    refine aM_1 S hW h dX12_restore_92 (fun v14 _ h => ?_)
    exact ret_is (wf := wM G A) hret h rfl hW dX12_restore_93
def rmX12_status : Room := { frames := 1, cells := 0, slots := 0, locals := 22 }
def LX12_status_9 (σ : SC) (K : Int32 → Option Int32) : Nat → Int32 → Int32 → Option Int32
  | 0, _, _ => none
  | k + 1, y2, y3 => ld (ga σ 0) 173 172 (fun v4 => if v4 ≤ y3 then K y2 else ld (ga σ 0) 173 (96 + y3) (fun v5 => if v5 ≤ 0 then lt (y2 + 0) (fun v6 => lt (y3 + 1) (fun v7 => LX12_status_9 σ K k v6 v7)) else lt (y2 + 1) (fun v8 => lt (y3 + 1) (fun v9 => LX12_status_9 σ K k v8 v9))))
def f_X12_status (n : Nat) (σ : SC) (a1 : Int32) : Option Int32 := if a1 = 5 then LX12_status_9 σ (fun w10 => some w10) n 0 0 else if (f_X12_in a1 11 17) = 0 then if a1 = 0 then ld (ga σ 0) 173 172 (fun v2 => some v2) else if (f_X12_in a1 1 4) = 0 then if a1 = 6 then some (gi σ 12) else some (-1) else ld (ga σ 0) 173 ((168 + a1) - 1) (fun v1 => some v1) else ld (ga σ 2) 8 (a1 - 10) (fun v3 => some v3)
theorem mi_X12_status : MI yX12_status cX12_status 4 (some .int) 1 := ⟨im_X12_status, se_X12_status, in_X12, co_X12_status, by decide, by decide, by decide +kernel⟩
set_option maxRecDepth 100000 in
set_option maxHeartbeats 4000000 in
theorem ct_X12_status (l : Launch) (n : Nat) (G : EN) (A : Nat → Nat) (σ : SC) (sz : Nat) (a1 : Int32) {r0 : Int32} (h : f_X12_status n σ a1 = some r0) : CT l yX12_status cX12_status 4 (some .int) rmX12_status G sz [.ref (A 0), .int a1] (wM G A σ) (QI G (va_A (wM G A σ) sz) r0 (wM G A σ)) := by
  unfold f_X12_status at h
  refine CI.intro (lv := [(0, .ref (A 0)), (1, .int a1)]) (by decide) (Nat.le_of_ble_eq_true rfl) rfl ?_
  intro p e s m args below meth c Q B S hret H locs ls hW hl
  have hx := S.1
  have hb := S.2.1
  refine lv_iload_n hx hb dX12_status_0 rfl (lv_at hl 1 rfl) ?_
  refine lv_iconst (v := 5) hx hb dX12_status_1 (by decide) ?_
  refine bc_ne (tgt := 49) hx hb h dX12_status_2 (by decide) (fun _ h => ?_) (fun _ h => ?_)
  · refine lv_iconst (v := 0) hx hb dX12_status_5 (by decide) ?_
    refine lv_istore_n (lv' := [(2, .int 0), (0, .ref (A 0)), (1, .int a1)]) hx hb dX12_status_6 rfl hl (by decide) rfl (fun ls hl => ?_)
    refine lv_iconst (v := 0) hx hb dX12_status_7 (by decide) ?_
    refine lv_istore_n (lv' := [(3, .int 0), (2, .int 0), (0, .ref (A 0)), (1, .int a1)]) hx hb dX12_status_8 rfl hl (by decide) rfl (fun ls hl => ?_)
    have hL9 : ∀  (K : Int32 → Option Int32), (∀ (z2 : Int32) (H : Heap) (locs : List Loc) (ls : Array Slot), WS G B s (wM G A σ) H locs → lv_has ls 4 [(2, .int z2)] → K z2 = some r0 → W p l e rmX12_status s m args below meth c H locs 0 0 Q (F0 m 47 ls [])) → ∀ (k : Nat)  (y2 : Int32) (y3 : Int32)  (H : Heap) (locs : List Loc) (ls : Array Slot), WS G B s (wM G A σ) H locs → lv_has ls 4 [(0, .ref (A 0)), (2, .int y2), (3, .int y3)] → LX12_status_9 σ K k y2 y3 = some r0 → W p l e rmX12_status s m args below meth c H locs 0 0 Q (F0 m 9 ls []) := by
      intro  K hK k
      induction k with
      | zero => intro y2 y3 H locs ls hW hl h; rw [LX12_status_9] at h; cases h
      | succ k ih =>
        intro y2 y3 H locs ls hW hl h
        rw [LX12_status_9] at h
        refine lv_iload_n hx hb dX12_status_9 rfl (lv_at hl 2 rfl) ?_
        refine lv_aload_n hx hb dX12_status_10 rfl (lv_at hl 0 rfl) ?_
        refine gM_s S hW lk_X12_7 dX12_status_11 ?_
        refine lv_sipush (v := 172) hx hb dX12_status_14 (by decide) ?_
        refine aM_1 S hW h dX12_status_17 (fun v4 _ h => ?_)
        refine bc_ge (tgt := 47) hx hb h dX12_status_18 (by decide) (fun _ h => ?_) (fun _ h => ?_)
        · exact hK y2 _ _ _ hW (lv_sub hl [1] rfl) h
        · refine lv_iload_n hx hb dX12_status_21 rfl (lv_at hl 1 rfl) ?_
          refine lv_aload_n hx hb dX12_status_22 rfl (lv_at hl 0 rfl) ?_
          refine gM_s S hW lk_X12_7 dX12_status_23 ?_
          refine lv_bipush (v := 96) hx hb dX12_status_26 (by decide) ?_
          refine lv_iload_n hx hb dX12_status_28 rfl (lv_at hl 2 rfl) ?_
          refine lv_iadd hx hb dX12_status_29 ?_
          refine aM_1 S hW h dX12_status_30 (fun v5 _ h => ?_)
          refine bz_le (tgt := 38) hx hb h dX12_status_31 (by decide) (fun _ h => ?_) (fun _ h => ?_)
          · refine lv_iconst (v := 0) hx hb dX12_status_38 (by decide) ?_
            refine lv_iadd hx hb dX12_status_39 ?_
            refine nm_i h (fun v6 h => ?_)
            refine lv_istore_n (lv' := [(2, .int v6), (0, .ref (A 0)), (3, .int y3)]) hx hb dX12_status_40 rfl hl (by decide) rfl (fun ls hl => ?_)
            refine w_iinc (lv' := [(2, .int v6), (0, .ref (A 0))]) hx hb dX12_status_41 hl (k := 2) rfl (by decide) (by decide) rfl h (fun v7 ls hl h => ?_)
            refine lv_goto (tgt := 9) hx hb dX12_status_44 (by decide) ?_
            exact ih v6 v7 _ _ _ hW (lv_sub hl [2, 1, 0] rfl) h
          · refine lv_iconst (v := 1) hx hb dX12_status_34 (by decide) ?_
            refine lv_goto (tgt := 39) hx hb dX12_status_35 (by decide) ?_
            refine lv_iadd hx hb dX12_status_39 ?_
            refine nm_i h (fun v8 h => ?_)
            refine lv_istore_n (lv' := [(2, .int v8), (0, .ref (A 0)), (3, .int y3)]) hx hb dX12_status_40 rfl hl (by decide) rfl (fun ls hl => ?_)
            refine w_iinc (lv' := [(2, .int v8), (0, .ref (A 0))]) hx hb dX12_status_41 hl (k := 2) rfl (by decide) (by decide) rfl h (fun v9 ls hl h => ?_)
            refine lv_goto (tgt := 9) hx hb dX12_status_44 (by decide) ?_
            exact ih v8 v9 _ _ _ hW (lv_sub hl [2, 1, 0] rfl) h
    refine hL9  _ (fun w10 H locs ls hW hl h => ?_) n 0 0 _ _ _ hW (lv_sub hl [2, 1, 0] rfl) h
    refine lv_iload_n hx hb dX12_status_47 rfl (lv_at hl 0 rfl) ?_
    exact hret H locs _ ls _ (Option.some.inj h) rfl hW dX12_status_48
  · refine lv_iload_n hx hb dX12_status_49 rfl (lv_at hl 1 rfl) ?_
    refine lv_bipush (v := 11) hx hb dX12_status_50 (by decide) ?_
    refine lv_bipush (v := 17) hx hb dX12_status_52 (by decide) ?_
    refine back_i (rest := []) hW (run_S S hW (ct_X12_in l G A σ _ a1 11 17 rfl) ms_X12_in lk_X12_67 rfl rfl hl (Nat.le_of_ble_eq_true rfl) dX12_status_54 ⟨Nat.le_of_ble_eq_true rfl, Nat.le_of_ble_eq_true rfl⟩ rfl rfl) (fun H locs hW => ?_)
    refine bz_eq (tgt := 70) hx hb h dX12_status_57 (by decide) (fun _ h => ?_) (fun _ h => ?_)
    · refine lv_iload_n hx hb dX12_status_70 rfl (lv_at hl 1 rfl) ?_
      refine bz_ne (tgt := 85) hx hb h dX12_status_71 (by decide) (fun _ h => ?_) (fun _ h => ?_)
      · refine lv_aload_n hx hb dX12_status_74 rfl (lv_at hl 0 rfl) ?_
        refine gM_s S hW lk_X12_7 dX12_status_75 ?_
        refine lv_sipush (v := 172) hx hb dX12_status_78 (by decide) ?_
        refine aM_1 S hW h dX12_status_81 (fun v2 _ h => ?_)
        refine lv_goto (tgt := 123) hx hb dX12_status_82 (by decide) ?_
        exact hret H locs _ ls _ (Option.some.inj h) rfl hW dX12_status_123
      · refine lv_iload_n hx hb dX12_status_85 rfl (lv_at hl 1 rfl) ?_
        refine lv_iconst (v := 1) hx hb dX12_status_86 (by decide) ?_
        refine lv_iconst (v := 4) hx hb dX12_status_87 (by decide) ?_
        refine back_i (rest := []) hW (run_S S hW (ct_X12_in l G A σ _ a1 1 4 rfl) ms_X12_in lk_X12_67 rfl rfl hl (Nat.le_of_ble_eq_true rfl) dX12_status_88 ⟨Nat.le_of_ble_eq_true rfl, Nat.le_of_ble_eq_true rfl⟩ rfl rfl) (fun H locs hW => ?_)
        refine bz_eq (tgt := 109) hx hb h dX12_status_91 (by decide) (fun _ h => ?_) (fun _ h => ?_)
        · refine lv_iload_n hx hb dX12_status_109 rfl (lv_at hl 1 rfl) ?_
          refine lv_bipush (v := 6) hx hb dX12_status_110 (by decide) ?_
          refine bc_ne (tgt := 122) hx hb h dX12_status_112 (by decide) (fun _ h => ?_) (fun _ h => ?_)
          · refine lv_aload_n hx hb dX12_status_115 rfl (lv_at hl 0 rfl) ?_
            refine gM_tracedMany S hW lk_X12_266 dX12_status_116 ?_
            refine lv_goto (tgt := 123) hx hb dX12_status_119 (by decide) ?_
            exact hret H locs _ ls _ (Option.some.inj h) rfl hW dX12_status_123
          · refine lv_iconst (v := (-1)) hx hb dX12_status_122 (by decide) ?_
            exact hret H locs _ ls _ (Option.some.inj h) rfl hW dX12_status_123
        · refine lv_aload_n hx hb dX12_status_94 rfl (lv_at hl 0 rfl) ?_
          refine gM_s S hW lk_X12_7 dX12_status_95 ?_
          refine lv_sipush (v := 168) hx hb dX12_status_98 (by decide) ?_
          refine lv_iload_n hx hb dX12_status_101 rfl (lv_at hl 1 rfl) ?_
          refine lv_iadd hx hb dX12_status_102 ?_
          refine lv_iconst (v := 1) hx hb dX12_status_103 (by decide) ?_
          refine lv_isub hx hb dX12_status_104 ?_
          refine aM_1 S hW h dX12_status_105 (fun v1 _ h => ?_)
          refine lv_goto (tgt := 123) hx hb dX12_status_106 (by decide) ?_
          exact hret H locs _ ls _ (Option.some.inj h) rfl hW dX12_status_123
    · refine lv_aload_n hx hb dX12_status_60 rfl (lv_at hl 0 rfl) ?_
      refine gM_refusals S hW lk_X12_16 dX12_status_61 ?_
      refine lv_iload_n hx hb dX12_status_64 rfl (lv_at hl 1 rfl) ?_
      refine lv_bipush (v := 10) hx hb dX12_status_65 (by decide) ?_
      refine lv_isub hx hb dX12_status_67 ?_
      refine aM_3 S hW h dX12_status_68 (fun v3 _ h => ?_)
      exact hret H locs _ ls _ (Option.some.inj h) rfl hW dX12_status_69
