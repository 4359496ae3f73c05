/-! THE LAW'S WALK, over any invariant between the two sides' numbers -/
section RL
variable {p : Program} {l : Launch} {e : Env} {R : Room} {s : State} {m : MethodId} {args : Array Value} {below : List Frame} {meth : Method} {c : Code} {H : Heap} {locs : List Loc} {cells slots : Nat} {Q : State → Prop}
variable {cc : ByteArray} {pc : Nat} {ls : Array Slot} {rest st0 As : List Value} {G : EN} {A : Nat → Prop} {wc wr ws0 : va_W} {nL nLy index a n ci q0 N : Nat} {own : String} {y : MethodName} {b : ByteArray} {rm : Room} {lv : List (Nat × Value)} {ret : Option FieldType} {T : u_T} {fs : List Value} {Qx : Array Value → State → Outcome → State → Prop}
theorem run_V2 (S : CallFix p m c cc nL s args GW own) (hW : WS G A s (wc ++ wr) H locs) (ct : CT l y b nLy ret rm G H.size (.ref a :: As) wc Qx) (M : MI y b nLy ret n) (hlk : Cond.methodLink own index y ∈ GW)
    (he : wc[q0]? = some (a, .inr (ci, fs))) (hc : vwCl[ci]? = some (y.cls, T, N)) (hn : As.length = n) (hst : st0 = As.reverse ++ .ref a :: rest) (hl : lv_has ls nL lv) (hro : (rest.map fun v => v.category).sum ≤ 8) (hdg : decode cc pc = .ok (.invokevirtual index, 3)) (hR : rm.frames + 1 ≤ R.frames ∧ 8 + (nLy + 11) + rm.locals ≤ R.locals) (hrc : rm.cells = 0) (hrs : rm.slots = 0) (hf : cells ≤ R.cells ∧ slots ≤ R.slots) :
    va_Run p l e R s m args below meth c H locs cells slots 0 0 (F0 m pc ls st0) rest (Qx (Value.ref a :: As).toArray) (va_A wc H.size) := by
  obtain ⟨m1, m2, m3, m4, m5, m6, m7⟩ := M
  have hts := S.2.2.2.2
  refine va_runV (C := y.cls) (b := a) (As := As) (rest := rest) S ct ⟨callB_of n hts (GW_in m4) rfl hrc hrs (hts _ m3) (hts _ hlk) ⟨m5, m6, m7⟩ hR, hts _ m1, hts _ m2⟩ ⟨PW.blind _, ?_, ?_⟩ rfl hn hl.1 hst (lv_room hro) hdg hf
  · exact va_recv hW.1 (P_l hW.2.1) hc he
  · intro U hU hWm
    exact ⟨rfl, PW.of hW hU hWm⟩
theorem back2_i {r0 : Int32} {a : Array Value} (hW : WS G A s (wc ++ wr) H locs) (hr : va_Run p l e R s m args below meth c H locs cells slots 0 0 (F0 m pc ls st0) rest (QI G (va_A wc H.size) r0 ws0 a) (va_A wc H.size))
    (kk : ∀ (H1 : Heap) (locs1 : List Loc), WS G A s (ws0 ++ wr) H1 locs1 → W p l e R s m args below meth c H1 locs1 cells slots Q (F0 m (pc + 3) ls (.int r0 :: rest))) : W p l e R s m args below meth c H locs cells slots Q (F0 m pc ls st0) := by
  have hF := va_free_self (D_l hW.2.2.1) hW.2.2.2.1 hW.2.2.2.2.1
  refine va_calli hr hW.2.2.2.1 (fun q _ h => hF q h) hF (fun r u t H1 locs1 ht hvm hp hB hz hk hS => ?_)
  subst hp
  refine kk H1 locs1 (hW.joined hk ?_ hB.2 hS)
  rw [← ht]
  exact hB.1
theorem back2_l {r0 : Int64} {a : Array Value} (hW : WS G A s (wc ++ wr) H locs) (hr : va_Run p l e R s m args below meth c H locs cells slots 0 0 (F0 m pc ls st0) rest (QJ G (va_A wc H.size) r0 ws0 a) (va_A wc H.size))
    (kk : ∀ (H1 : Heap) (locs1 : List Loc), WS G A s (ws0 ++ wr) H1 locs1 → W p l e R s m args below meth c H1 locs1 cells slots Q (F0 m (pc + 3) ls (.long r0 :: rest))) : W p l e R s m args below meth c H locs cells slots Q (F0 m pc ls st0) := by
  have hF := va_free_self (D_l hW.2.2.1) hW.2.2.2.1 hW.2.2.2.2.1
  refine va_calll hr hW.2.2.2.1 (fun q _ h => hF q h) hF (fun r u t H1 locs1 ht hvm hp hB hz hk hS => ?_)
  subst hp
  refine kk H1 locs1 (hW.joined hk ?_ hB.2 hS)
  rw [← ht]
  exact hB.1
theorem x_sld {bs L : Nat} {xs : Nat → Int32} {i v : Int32} (S : CallFix p m c cc nL s args GW own) (hX : va_X bs L xs s s.heap) (hbl : bs < s.heap.size) (hbA : ¬ A bs) (hW : WS G A s wc H locs) (hin : vp_in i L) (hv : xs i.toNatClampNeg = v) (hdg : decode cc pc = .ok (.iaload, 1))
    (kk : W p l e R s m args below meth c H locs cells slots Q (F0 m (pc + 1) ls (.int v :: rest))) : W p l e R s m args below meth c H locs cells slots Q (F0 m pc ls (.int i :: .ref bs :: rest)) := by
  subst hv
  exact va_sld S.1 S.2.1 hX hbl hbA hW.2.2.2.1 hin hdg kk
end RL
theorem lg_self (x : Int64) : lg_cmp x x = 0 := by
  unfold lg_cmp
  rw [if_neg (by simp), if_pos rfl]

def ag_row (n : Nat) (R : SC → SC → Prop) : Prop := ∀ (σ τ : SC) (a1 : Int32) (a2 : Int32) (a3 : Int32), R σ τ → ∃ (r : Int32) (σ1 : SC) (τ1 : SC), f_X11_row σ a1 a2 a3 = some (r, σ1) ∧ f_X12_row n τ a1 a2 a3 = some (r, τ1) ∧ R σ1 τ1
set_option maxRecDepth 100000 in
set_option maxHeartbeats 4000000 in
theorem lc_row {p : Program} {l : Launch} {e : Env} {s : State} {m : MethodId} {args : Array Value} {below : List Frame} {meth : Method} {c : Code} {H : Heap} {locs : List Loc} {cells slots : Nat} {Q : State → Prop} {ls : Array Slot} {G : EN} {A : Nat → Prop} {A1 A2 : Nat → Nat} {σ τ : SC} {n bs L : Nat} {xs : Nat → Int32} {i3 : Int32} {R : SC → SC → Prop} (S : CallFix p m c code 4 s args GW RL) (hX : va_X bs L xs s s.heap) (hbl : bs < s.heap.size) (hbA : ¬ A bs) (z : Nat → Int32) (hin : ∀ t, t < 6 → vp_in (i3 + nI t) L) (ez : ∀ t, t < 6 → xs (i3 + nI t).toNatClampNeg = z t) (hcs : cells ≤ room_1.cells ∧ slots ≤ room_1.slots) (ag : ag_row n R) (hR : R σ τ) (hW : WS G A s (wC G A1 σ ++ wM G A2 τ) H locs) (hl : lv_has ls 4 [(0, .ref bs), (1, .ref (A1 0)), (2, .ref (A2 0)), (3, .int i3)])
    (kk : ∀ (σ1 τ1 : SC) (H1 : Heap) (locs1 : List Loc), R σ1 τ1 → WS G A s (wC G A1 σ1 ++ wM G A2 τ1) H1 locs1 → W p l e room_1 s m args below meth c H1 locs1 cells slots Q (F0 m 1416 ls [])) : W p l e room_1 s m args below meth c H locs cells slots Q (F0 m 212 ls []) := by
  have hx := S.1
  have hb := S.2.1
  refine lv_aload_n hx hb dL_law_212 rfl (lv_at hl 1 rfl) ?_
  refine lv_aload_n hx hb dL_law_213 rfl (lv_at hl 0 rfl) ?_
  refine lv_iload_n hx hb dL_law_214 rfl (lv_at hl 3 rfl) ?_
  refine lv_iconst (v := 1) hx hb dL_law_215 (by decide) ?_
  refine lv_iadd hx hb dL_law_216 ?_
  refine x_sld S hX hbl hbA hW (hin 1 (by decide)) (ez 1 (by decide)) dL_law_217 ?_
  refine lv_aload_n hx hb dL_law_218 rfl (lv_at hl 0 rfl) ?_
  refine lv_iload_n hx hb dL_law_219 rfl (lv_at hl 3 rfl) ?_
  refine lv_iconst (v := 2) hx hb dL_law_220 (by decide) ?_
  refine lv_iadd hx hb dL_law_221 ?_
  refine x_sld S hX hbl hbA hW (hin 2 (by decide)) (ez 2 (by decide)) dL_law_222 ?_
  refine lv_aload_n hx hb dL_law_223 rfl (lv_at hl 0 rfl) ?_
  refine lv_iload_n hx hb dL_law_224 rfl (lv_at hl 3 rfl) ?_
  refine lv_iconst (v := 3) hx hb dL_law_225 (by decide) ?_
  refine lv_iadd hx hb dL_law_226 ?_
  refine x_sld S hX hbl hbA hW (hin 3 (by decide)) (ez 3 (by decide)) dL_law_227 ?_
  obtain ⟨r, σ1, τ1, h1, h2, hR⟩ := ag σ τ (z 1) (z 2) (z 3) hR
  refine back2_i (rest := []) hW (run_V2 S hW (ct_X11_row l G A1 σ _ (z 1) (z 2) (z 3) h1) mi_X11_row lk_L_13 (eC_0 G A1 σ) rfl rfl rfl hl (Nat.le_of_ble_eq_true rfl) dL_law_228 ⟨Nat.le_of_ble_eq_true rfl, Nat.le_of_ble_eq_true rfl⟩ rfl rfl hcs) (fun H locs hW => ?_)
  refine lv_aload_n hx hb dL_law_231 rfl (lv_at hl 2 rfl) ?_
  refine lv_aload_n hx hb dL_law_232 rfl (lv_at hl 0 rfl) ?_
  refine lv_iload_n hx hb dL_law_233 rfl (lv_at hl 3 rfl) ?_
  refine lv_iconst (v := 1) hx hb dL_law_234 (by decide) ?_
  refine lv_iadd hx hb dL_law_235 ?_
  refine x_sld S hX hbl hbA hW (hin 1 (by decide)) (ez 1 (by decide)) dL_law_236 ?_
  refine lv_aload_n hx hb dL_law_237 rfl (lv_at hl 0 rfl) ?_
  refine lv_iload_n hx hb dL_law_238 rfl (lv_at hl 3 rfl) ?_
  refine lv_iconst (v := 2) hx hb dL_law_239 (by decide) ?_
  refine lv_iadd hx hb dL_law_240 ?_
  refine x_sld S hX hbl hbA hW (hin 2 (by decide)) (ez 2 (by decide)) dL_law_241 ?_
  refine lv_aload_n hx hb dL_law_242 rfl (lv_at hl 0 rfl) ?_
  refine lv_iload_n hx hb dL_law_243 rfl (lv_at hl 3 rfl) ?_
  refine lv_iconst (v := 3) hx hb dL_law_244 (by decide) ?_
  refine lv_iadd hx hb dL_law_245 ?_
  refine x_sld S hX hbl hbA hW (hin 3 (by decide)) (ez 3 (by decide)) dL_law_246 ?_
  have hW := WS.swap hW
  refine back2_i (rest := [.int r]) hW (run_V2 S hW (ct_X12_row l n G A2 τ _ (z 1) (z 2) (z 3) h2) mi_X12_row lk_L_17 (eM_0 G A2 τ) rfl rfl rfl hl (Nat.le_of_ble_eq_true rfl) dL_law_247 ⟨Nat.le_of_ble_eq_true rfl, Nat.le_of_ble_eq_true rfl⟩ rfl rfl hcs) (fun H locs hW => ?_)
  have hW := WS.swap hW
  refine lv_icmp_eq (tgt := 1416) hx hb dL_law_250 (by decide) (fun _ => ?_) (fun q => absurd rfl q)
  exact kk σ1 τ1 H locs hR hW
def ag_set (n : Nat) (R : SC → SC → Prop) : Prop := ∀ (σ τ : SC) (a1 : Int32) (a2 : Int32) (a3 : Int64), R σ τ → ∃ (r : Int32) (σ1 : SC) (τ1 : SC), f_X11_set σ a1 a2 a3 = some (r, σ1) ∧ f_X12_set τ a1 a2 a3 = some (r, τ1) ∧ R σ1 τ1
set_option maxRecDepth 100000 in
set_option maxHeartbeats 4000000 in
theorem lc_set {p : Program} {l : Launch} {e : Env} {s : State} {m : MethodId} {args : Array Value} {below : List Frame} {meth : Method} {c : Code} {H : Heap} {locs : List Loc} {cells slots : Nat} {Q : State → Prop} {ls : Array Slot} {G : EN} {A : Nat → Prop} {A1 A2 : Nat → Nat} {σ τ : SC} {n bs L : Nat} {xs : Nat → Int32} {i3 : Int32} {R : SC → SC → Prop} (S : CallFix p m c code 4 s args GW RL) (hX : va_X bs L xs s s.heap) (hbl : bs < s.heap.size) (hbA : ¬ A bs) (z : Nat → Int32) (hin : ∀ t, t < 6 → vp_in (i3 + nI t) L) (ez : ∀ t, t < 6 → xs (i3 + nI t).toNatClampNeg = z t) (hcs : cells ≤ room_1.cells ∧ slots ≤ room_1.slots) (ag : ag_set n R) (hR : R σ τ) (hW : WS G A s (wC G A1 σ ++ wM G A2 τ) H locs) (hl : lv_has ls 4 [(0, .ref bs), (1, .ref (A1 0)), (2, .ref (A2 0)), (3, .int i3)])
    (kk : ∀ (σ1 τ1 : SC) (H1 : Heap) (locs1 : List Loc), R σ1 τ1 → WS G A s (wC G A1 σ1 ++ wM G A2 τ1) H1 locs1 → W p l e room_1 s m args below meth c H1 locs1 cells slots Q (F0 m 1416 ls [])) : W p l e room_1 s m args below meth c H locs cells slots Q (F0 m 255 ls []) := by
  have hx := S.1
  have hb := S.2.1
  refine lv_aload_n hx hb dL_law_255 rfl (lv_at hl 1 rfl) ?_
  refine lv_aload_n hx hb dL_law_256 rfl (lv_at hl 0 rfl) ?_
  refine lv_iload_n hx hb dL_law_257 rfl (lv_at hl 3 rfl) ?_
  refine lv_iconst (v := 1) hx hb dL_law_258 (by decide) ?_
  refine lv_iadd hx hb dL_law_259 ?_
  refine x_sld S hX hbl hbA hW (hin 1 (by decide)) (ez 1 (by decide)) dL_law_260 ?_
  refine lv_aload_n hx hb dL_law_261 rfl (lv_at hl 0 rfl) ?_
  refine lv_iload_n hx hb dL_law_262 rfl (lv_at hl 3 rfl) ?_
  refine lv_iconst (v := 2) hx hb dL_law_263 (by decide) ?_
  refine lv_iadd hx hb dL_law_264 ?_
  refine x_sld S hX hbl hbA hW (hin 2 (by decide)) (ez 2 (by decide)) dL_law_265 ?_
  refine lv_aload_n hx hb dL_law_266 rfl (lv_at hl 0 rfl) ?_
  refine lv_iload_n hx hb dL_law_267 rfl (lv_at hl 3 rfl) ?_
  refine lv_iconst (v := 3) hx hb dL_law_268 (by decide) ?_
  refine lv_iadd hx hb dL_law_269 ?_
  refine x_sld S hX hbl hbA hW (hin 3 (by decide)) (ez 3 (by decide)) dL_law_270 ?_
  refine lv_i2l hx hb dL_law_271 rfl ?_
  refine lv_bipush (v := 32) hx hb dL_law_272 (by decide) ?_
  refine lv_lshl (v := ((z 3).toInt64 <<< (((32 : Int32).toInt64 &&& 63)))) hx hb dL_law_274 rfl ?_
  refine lv_aload_n hx hb dL_law_275 rfl (lv_at hl 0 rfl) ?_
  refine lv_iload_n hx hb dL_law_276 rfl (lv_at hl 3 rfl) ?_
  refine lv_iconst (v := 4) hx hb dL_law_277 (by decide) ?_
  refine lv_iadd hx hb dL_law_278 ?_
  refine x_sld S hX hbl hbA hW (hin 4 (by decide)) (ez 4 (by decide)) dL_law_279 ?_
  refine lv_i2l hx hb dL_law_280 rfl ?_
  refine lv_ldc2 (v := 4294967295) hx hb S.2.2.2.1 (S.2.2.2.2 _ lk_L_18) dL_law_281 ?_
  refine lv_land hx hb dL_law_284 ?_
  refine lv_lor hx hb dL_law_285 ?_
  obtain ⟨r, σ1, τ1, h1, h2, hR⟩ := ag σ τ (z 1) (z 2) (((z 3).toInt64 <<< (((32 : Int32).toInt64 &&& 63))) ||| ((z 4).toInt64 &&& 4294967295)) hR
  refine back2_i (rest := []) hW (run_V2 S hW (ct_X11_set l G A1 σ _ (z 1) (z 2) (((z 3).toInt64 <<< (((32 : Int32).toInt64 &&& 63))) ||| ((z 4).toInt64 &&& 4294967295)) h1) mi_X11_set lk_L_20 (eC_0 G A1 σ) rfl rfl rfl hl (Nat.le_of_ble_eq_true rfl) dL_law_286 ⟨Nat.le_of_ble_eq_true rfl, Nat.le_of_ble_eq_true rfl⟩ rfl rfl hcs) (fun H locs hW => ?_)
  refine lv_aload_n hx hb dL_law_289 rfl (lv_at hl 2 rfl) ?_
  refine lv_aload_n hx hb dL_law_290 rfl (lv_at hl 0 rfl) ?_
  refine lv_iload_n hx hb dL_law_291 rfl (lv_at hl 3 rfl) ?_
  refine lv_iconst (v := 1) hx hb dL_law_292 (by decide) ?_
  refine lv_iadd hx hb dL_law_293 ?_
  refine x_sld S hX hbl hbA hW (hin 1 (by decide)) (ez 1 (by decide)) dL_law_294 ?_
  refine lv_aload_n hx hb dL_law_295 rfl (lv_at hl 0 rfl) ?_
  refine lv_iload_n hx hb dL_law_296 rfl (lv_at hl 3 rfl) ?_
  refine lv_iconst (v := 2) hx hb dL_law_297 (by decide) ?_
  refine lv_iadd hx hb dL_law_298 ?_
  refine x_sld S hX hbl hbA hW (hin 2 (by decide)) (ez 2 (by decide)) dL_law_299 ?_
  refine lv_aload_n hx hb dL_law_300 rfl (lv_at hl 0 rfl) ?_
  refine lv_iload_n hx hb dL_law_301 rfl (lv_at hl 3 rfl) ?_
  refine lv_iconst (v := 3) hx hb dL_law_302 (by decide) ?_
  refine lv_iadd hx hb dL_law_303 ?_
  refine x_sld S hX hbl hbA hW (hin 3 (by decide)) (ez 3 (by decide)) dL_law_304 ?_
  refine lv_i2l hx hb dL_law_305 rfl ?_
  refine lv_bipush (v := 32) hx hb dL_law_306 (by decide) ?_
  refine lv_lshl (v := ((z 3).toInt64 <<< (((32 : Int32).toInt64 &&& 63)))) hx hb dL_law_308 rfl ?_
  refine lv_aload_n hx hb dL_law_309 rfl (lv_at hl 0 rfl) ?_
  refine lv_iload_n hx hb dL_law_310 rfl (lv_at hl 3 rfl) ?_
  refine lv_iconst (v := 4) hx hb dL_law_311 (by decide) ?_
  refine lv_iadd hx hb dL_law_312 ?_
  refine x_sld S hX hbl hbA hW (hin 4 (by decide)) (ez 4 (by decide)) dL_law_313 ?_
  refine lv_i2l hx hb dL_law_314 rfl ?_
  refine lv_ldc2 (v := 4294967295) hx hb S.2.2.2.1 (S.2.2.2.2 _ lk_L_18) dL_law_315 ?_
  refine lv_land hx hb dL_law_318 ?_
  refine lv_lor hx hb dL_law_319 ?_
  have hW := WS.swap hW
  refine back2_i (rest := [.int r]) hW (run_V2 S hW (ct_X12_set l G A2 τ _ (z 1) (z 2) (((z 3).toInt64 <<< (((32 : Int32).toInt64 &&& 63))) ||| ((z 4).toInt64 &&& 4294967295)) h2) mi_X12_set lk_L_24 (eM_0 G A2 τ) rfl rfl rfl hl (Nat.le_of_ble_eq_true rfl) dL_law_320 ⟨Nat.le_of_ble_eq_true rfl, Nat.le_of_ble_eq_true rfl⟩ rfl rfl hcs) (fun H locs hW => ?_)
  have hW := WS.swap hW
  refine lv_icmp_eq (tgt := 1416) hx hb dL_law_323 (by decide) (fun _ => ?_) (fun q => absurd rfl q)
  exact kk σ1 τ1 H locs hR hW
def ag_copy (n : Nat) (R : SC → SC → Prop) : Prop := ∀ (σ τ : SC) (a1 : Int32) (a2 : Int32) (a3 : Int32) (a4 : Int32) (a5 : Int32), R σ τ → ∃ (r : Int32) (σ1 : SC) (τ1 : SC), f_X11_copy σ a1 a2 a3 a4 a5 = some (r, σ1) ∧ f_X12_copy n τ a1 a2 a3 a4 a5 = some (r, τ1) ∧ R σ1 τ1
set_option maxRecDepth 100000 in
set_option maxHeartbeats 4000000 in
theorem lc_copy {p : Program} {l : Launch} {e : Env} {s : State} {m : MethodId} {args : Array Value} {below : List Frame} {meth : Method} {c : Code} {H : Heap} {locs : List Loc} {cells slots : Nat} {Q : State → Prop} {ls : Array Slot} {G : EN} {A : Nat → Prop} {A1 A2 : Nat → Nat} {σ τ : SC} {n bs L : Nat} {xs : Nat → Int32} {i3 : Int32} {R : SC → SC → Prop} (S : CallFix p m c code 4 s args GW RL) (hX : va_X bs L xs s s.heap) (hbl : bs < s.heap.size) (hbA : ¬ A bs) (z : Nat → Int32) (hin : ∀ t, t < 6 → vp_in (i3 + nI t) L) (ez : ∀ t, t < 6 → xs (i3 + nI t).toNatClampNeg = z t) (hcs : cells ≤ room_1.cells ∧ slots ≤ room_1.slots) (ag : ag_copy n R) (hR : R σ τ) (hW : WS G A s (wC G A1 σ ++ wM G A2 τ) H locs) (hl : lv_has ls 4 [(0, .ref bs), (1, .ref (A1 0)), (2, .ref (A2 0)), (3, .int i3)])
    (kk : ∀ (σ1 τ1 : SC) (H1 : Heap) (locs1 : List Loc), R σ1 τ1 → WS G A s (wC G A1 σ1 ++ wM G A2 τ1) H1 locs1 → W p l e room_1 s m args below meth c H1 locs1 cells slots Q (F0 m 1416 ls [])) : W p l e room_1 s m args below meth c H locs cells slots Q (F0 m 328 ls []) := by
  have hx := S.1
  have hb := S.2.1
  refine lv_aload_n hx hb dL_law_328 rfl (lv_at hl 1 rfl) ?_
  refine lv_aload_n hx hb dL_law_329 rfl (lv_at hl 0 rfl) ?_
  refine lv_iload_n hx hb dL_law_330 rfl (lv_at hl 3 rfl) ?_
  refine lv_iconst (v := 1) hx hb dL_law_331 (by decide) ?_
  refine lv_iadd hx hb dL_law_332 ?_
  refine x_sld S hX hbl hbA hW (hin 1 (by decide)) (ez 1 (by decide)) dL_law_333 ?_
  refine lv_aload_n hx hb dL_law_334 rfl (lv_at hl 0 rfl) ?_
  refine lv_iload_n hx hb dL_law_335 rfl (lv_at hl 3 rfl) ?_
  refine lv_iconst (v := 2) hx hb dL_law_336 (by decide) ?_
  refine lv_iadd hx hb dL_law_337 ?_
  refine x_sld S hX hbl hbA hW (hin 2 (by decide)) (ez 2 (by decide)) dL_law_338 ?_
  refine lv_aload_n hx hb dL_law_339 rfl (lv_at hl 0 rfl) ?_
  refine lv_iload_n hx hb dL_law_340 rfl (lv_at hl 3 rfl) ?_
  refine lv_iconst (v := 3) hx hb dL_law_341 (by decide) ?_
  refine lv_iadd hx hb dL_law_342 ?_
  refine x_sld S hX hbl hbA hW (hin 3 (by decide)) (ez 3 (by decide)) dL_law_343 ?_
  refine lv_aload_n hx hb dL_law_344 rfl (lv_at hl 0 rfl) ?_
  refine lv_iload_n hx hb dL_law_345 rfl (lv_at hl 3 rfl) ?_
  refine lv_iconst (v := 4) hx hb dL_law_346 (by decide) ?_
  refine lv_iadd hx hb dL_law_347 ?_
  refine x_sld S hX hbl hbA hW (hin 4 (by decide)) (ez 4 (by decide)) dL_law_348 ?_
  refine lv_aload_n hx hb dL_law_349 rfl (lv_at hl 0 rfl) ?_
  refine lv_iload_n hx hb dL_law_350 rfl (lv_at hl 3 rfl) ?_
  refine lv_iconst (v := 5) hx hb dL_law_351 (by decide) ?_
  refine lv_iadd hx hb dL_law_352 ?_
  refine x_sld S hX hbl hbA hW (hin 5 (by decide)) (ez 5 (by decide)) dL_law_353 ?_
  obtain ⟨r, σ1, τ1, h1, h2, hR⟩ := ag σ τ (z 1) (z 2) (z 3) (z 4) (z 5) hR
  refine back2_i (rest := []) hW (run_V2 S hW (ct_X11_copy l G A1 σ _ (z 1) (z 2) (z 3) (z 4) (z 5) h1) mi_X11_copy lk_L_25 (eC_0 G A1 σ) rfl rfl rfl hl (Nat.le_of_ble_eq_true rfl) dL_law_354 ⟨Nat.le_of_ble_eq_true rfl, Nat.le_of_ble_eq_true rfl⟩ rfl rfl hcs) (fun H locs hW => ?_)
  refine lv_aload_n hx hb dL_law_357 rfl (lv_at hl 2 rfl) ?_
  refine lv_aload_n hx hb dL_law_358 rfl (lv_at hl 0 rfl) ?_
  refine lv_iload_n hx hb dL_law_359 rfl (lv_at hl 3 rfl) ?_
  refine lv_iconst (v := 1) hx hb dL_law_360 (by decide) ?_
  refine lv_iadd hx hb dL_law_361 ?_
  refine x_sld S hX hbl hbA hW (hin 1 (by decide)) (ez 1 (by decide)) dL_law_362 ?_
  refine lv_aload_n hx hb dL_law_363 rfl (lv_at hl 0 rfl) ?_
  refine lv_iload_n hx hb dL_law_364 rfl (lv_at hl 3 rfl) ?_
  refine lv_iconst (v := 2) hx hb dL_law_365 (by decide) ?_
  refine lv_iadd hx hb dL_law_366 ?_
  refine x_sld S hX hbl hbA hW (hin 2 (by decide)) (ez 2 (by decide)) dL_law_367 ?_
  refine lv_aload_n hx hb dL_law_368 rfl (lv_at hl 0 rfl) ?_
  refine lv_iload_n hx hb dL_law_369 rfl (lv_at hl 3 rfl) ?_
  refine lv_iconst (v := 3) hx hb dL_law_370 (by decide) ?_
  refine lv_iadd hx hb dL_law_371 ?_
  refine x_sld S hX hbl hbA hW (hin 3 (by decide)) (ez 3 (by decide)) dL_law_372 ?_
  refine lv_aload_n hx hb dL_law_373 rfl (lv_at hl 0 rfl) ?_
  refine lv_iload_n hx hb dL_law_374 rfl (lv_at hl 3 rfl) ?_
  refine lv_iconst (v := 4) hx hb dL_law_375 (by decide) ?_
  refine lv_iadd hx hb dL_law_376 ?_
  refine x_sld S hX hbl hbA hW (hin 4 (by decide)) (ez 4 (by decide)) dL_law_377 ?_
  refine lv_aload_n hx hb dL_law_378 rfl (lv_at hl 0 rfl) ?_
  refine lv_iload_n hx hb dL_law_379 rfl (lv_at hl 3 rfl) ?_
  refine lv_iconst (v := 5) hx hb dL_law_380 (by decide) ?_
  refine lv_iadd hx hb dL_law_381 ?_
  refine x_sld S hX hbl hbA hW (hin 5 (by decide)) (ez 5 (by decide)) dL_law_382 ?_
  have hW := WS.swap hW
  refine back2_i (rest := [.int r]) hW (run_V2 S hW (ct_X12_copy l n G A2 τ _ (z 1) (z 2) (z 3) (z 4) (z 5) h2) mi_X12_copy lk_L_29 (eM_0 G A2 τ) rfl rfl rfl hl (Nat.le_of_ble_eq_true rfl) dL_law_383 ⟨Nat.le_of_ble_eq_true rfl, Nat.le_of_ble_eq_true rfl⟩ rfl rfl hcs) (fun H locs hW => ?_)
  have hW := WS.swap hW
  refine lv_icmp_eq (tgt := 1416) hx hb dL_law_386 (by decide) (fun _ => ?_) (fun q => absurd rfl q)
  exact kk σ1 τ1 H locs hR hW
def ag_element (n : Nat) (R : SC → SC → Prop) : Prop := ∀ (σ τ : SC) (a1 : Int32) (a2 : Int32), R σ τ → ∃ (r : Int64), f_X11_element σ a1 a2 = some r ∧ f_X12_element τ a1 a2 = some r ∧ R σ τ
set_option maxRecDepth 100000 in
set_option maxHeartbeats 4000000 in
theorem lc_element {p : Program} {l : Launch} {e : Env} {s : State} {m : MethodId} {args : Array Value} {below : List Frame} {meth : Method} {c : Code} {H : Heap} {locs : List Loc} {cells slots : Nat} {Q : State → Prop} {ls : Array Slot} {G : EN} {A : Nat → Prop} {A1 A2 : Nat → Nat} {σ τ : SC} {n bs L : Nat} {xs : Nat → Int32} {i3 : Int32} {R : SC → SC → Prop} (S : CallFix p m c code 4 s args GW RL) (hX : va_X bs L xs s s.heap) (hbl : bs < s.heap.size) (hbA : ¬ A bs) (z : Nat → Int32) (hin : ∀ t, t < 6 → vp_in (i3 + nI t) L) (ez : ∀ t, t < 6 → xs (i3 + nI t).toNatClampNeg = z t) (hcs : cells ≤ room_1.cells ∧ slots ≤ room_1.slots) (ag : ag_element n R) (hR : R σ τ) (hW : WS G A s (wC G A1 σ ++ wM G A2 τ) H locs) (hl : lv_has ls 4 [(0, .ref bs), (1, .ref (A1 0)), (2, .ref (A2 0)), (3, .int i3)])
    (kk : ∀ (σ1 τ1 : SC) (H1 : Heap) (locs1 : List Loc), R σ1 τ1 → WS G A s (wC G A1 σ1 ++ wM G A2 τ1) H1 locs1 → W p l e room_1 s m args below meth c H1 locs1 cells slots Q (F0 m 1416 ls [])) : W p l e room_1 s m args below meth c H locs cells slots Q (F0 m 391 ls []) := by
  have hx := S.1
  have hb := S.2.1
  refine lv_aload_n hx hb dL_law_391 rfl (lv_at hl 1 rfl) ?_
  refine lv_aload_n hx hb dL_law_392 rfl (lv_at hl 0 rfl) ?_
  refine lv_iload_n hx hb dL_law_393 rfl (lv_at hl 3 rfl) ?_
  refine lv_iconst (v := 1) hx hb dL_law_394 (by decide) ?_
  refine lv_iadd hx hb dL_law_395 ?_
  refine x_sld S hX hbl hbA hW (hin 1 (by decide)) (ez 1 (by decide)) dL_law_396 ?_
  refine lv_aload_n hx hb dL_law_397 rfl (lv_at hl 0 rfl) ?_
  refine lv_iload_n hx hb dL_law_398 rfl (lv_at hl 3 rfl) ?_
  refine lv_iconst (v := 2) hx hb dL_law_399 (by decide) ?_
  refine lv_iadd hx hb dL_law_400 ?_
  refine x_sld S hX hbl hbA hW (hin 2 (by decide)) (ez 2 (by decide)) dL_law_401 ?_
  obtain ⟨r, h1, h2, hR⟩ := ag σ τ (z 1) (z 2) hR
  refine back2_l (rest := []) hW (run_V2 S hW (ct_X11_element l G A1 σ _ (z 1) (z 2) h1) mi_X11_element lk_L_30 (eC_0 G A1 σ) rfl rfl rfl hl (Nat.le_of_ble_eq_true rfl) dL_law_402 ⟨Nat.le_of_ble_eq_true rfl, Nat.le_of_ble_eq_true rfl⟩ rfl rfl hcs) (fun H locs hW => ?_)
  refine lv_aload_n hx hb dL_law_405 rfl (lv_at hl 2 rfl) ?_
  refine lv_aload_n hx hb dL_law_406 rfl (lv_at hl 0 rfl) ?_
  refine lv_iload_n hx hb dL_law_407 rfl (lv_at hl 3 rfl) ?_
  refine lv_iconst (v := 1) hx hb dL_law_408 (by decide) ?_
  refine lv_iadd hx hb dL_law_409 ?_
  refine x_sld S hX hbl hbA hW (hin 1 (by decide)) (ez 1 (by decide)) dL_law_410 ?_
  refine lv_aload_n hx hb dL_law_411 rfl (lv_at hl 0 rfl) ?_
  refine lv_iload_n hx hb dL_law_412 rfl (lv_at hl 3 rfl) ?_
  refine lv_iconst (v := 2) hx hb dL_law_413 (by decide) ?_
  refine lv_iadd hx hb dL_law_414 ?_
  refine x_sld S hX hbl hbA hW (hin 2 (by decide)) (ez 2 (by decide)) dL_law_415 ?_
  have hW := WS.swap hW
  refine back2_l (rest := [.long r]) hW (run_V2 S hW (ct_X12_element l G A2 τ _ (z 1) (z 2) h2) mi_X12_element lk_L_34 (eM_0 G A2 τ) rfl rfl rfl hl (Nat.le_of_ble_eq_true rfl) dL_law_416 ⟨Nat.le_of_ble_eq_true rfl, Nat.le_of_ble_eq_true rfl⟩ rfl rfl hcs) (fun H locs hW => ?_)
  have hW := WS.swap hW
  refine W.lcmp hx hb dL_law_419 ?_
  refine lv_if_eq (tgt := 1416) hx hb dL_law_420 (by decide) (fun _ => ?_) (fun q => absurd (lg_self r) q)
  exact kk σ τ H locs hR hW
def ag_show (n : Nat) (R : SC → SC → Prop) : Prop := ∀ (σ τ : SC) (a1 : Int32) (a2 : Int32), R σ τ → ∃ (r : Int32) (σ1 : SC) (τ1 : SC), f_X11_show σ a1 a2 = some (r, σ1) ∧ f_X12_show τ a1 a2 = some (r, τ1) ∧ R σ1 τ1
set_option maxRecDepth 100000 in
set_option maxHeartbeats 4000000 in
theorem lc_show {p : Program} {l : Launch} {e : Env} {s : State} {m : MethodId} {args : Array Value} {below : List Frame} {meth : Method} {c : Code} {H : Heap} {locs : List Loc} {cells slots : Nat} {Q : State → Prop} {ls : Array Slot} {G : EN} {A : Nat → Prop} {A1 A2 : Nat → Nat} {σ τ : SC} {n bs L : Nat} {xs : Nat → Int32} {i3 : Int32} {R : SC → SC → Prop} (S : CallFix p m c code 4 s args GW RL) (hX : va_X bs L xs s s.heap) (hbl : bs < s.heap.size) (hbA : ¬ A bs) (z : Nat → Int32) (hin : ∀ t, t < 6 → vp_in (i3 + nI t) L) (ez : ∀ t, t < 6 → xs (i3 + nI t).toNatClampNeg = z t) (hcs : cells ≤ room_1.cells ∧ slots ≤ room_1.slots) (ag : ag_show n R) (hR : R σ τ) (hW : WS G A s (wC G A1 σ ++ wM G A2 τ) H locs) (hl : lv_has ls 4 [(0, .ref bs), (1, .ref (A1 0)), (2, .ref (A2 0)), (3, .int i3)])
    (kk : ∀ (σ1 τ1 : SC) (H1 : Heap) (locs1 : List Loc), R σ1 τ1 → WS G A s (wC G A1 σ1 ++ wM G A2 τ1) H1 locs1 → W p l e room_1 s m args below meth c H1 locs1 cells slots Q (F0 m 1416 ls [])) : W p l e room_1 s m args below meth c H locs cells slots Q (F0 m 425 ls []) := by
  have hx := S.1
  have hb := S.2.1
  refine lv_aload_n hx hb dL_law_425 rfl (lv_at hl 1 rfl) ?_
  refine lv_aload_n hx hb dL_law_426 rfl (lv_at hl 0 rfl) ?_
  refine lv_iload_n hx hb dL_law_427 rfl (lv_at hl 3 rfl) ?_
  refine lv_iconst (v := 1) hx hb dL_law_428 (by decide) ?_
  refine lv_iadd hx hb dL_law_429 ?_
  refine x_sld S hX hbl hbA hW (hin 1 (by decide)) (ez 1 (by decide)) dL_law_430 ?_
  refine lv_aload_n hx hb dL_law_431 rfl (lv_at hl 0 rfl) ?_
  refine lv_iload_n hx hb dL_law_432 rfl (lv_at hl 3 rfl) ?_
  refine lv_iconst (v := 2) hx hb dL_law_433 (by decide) ?_
  refine lv_iadd hx hb dL_law_434 ?_
  refine x_sld S hX hbl hbA hW (hin 2 (by decide)) (ez 2 (by decide)) dL_law_435 ?_
  obtain ⟨r, σ1, τ1, h1, h2, hR⟩ := ag σ τ (z 1) (z 2) hR
  refine back2_i (rest := []) hW (run_V2 S hW (ct_X11_show l G A1 σ _ (z 1) (z 2) h1) mi_X11_show lk_L_35 (eC_0 G A1 σ) rfl rfl rfl hl (Nat.le_of_ble_eq_true rfl) dL_law_436 ⟨Nat.le_of_ble_eq_true rfl, Nat.le_of_ble_eq_true rfl⟩ rfl rfl hcs) (fun H locs hW => ?_)
  refine lv_aload_n hx hb dL_law_439 rfl (lv_at hl 2 rfl) ?_
  refine lv_aload_n hx hb dL_law_440 rfl (lv_at hl 0 rfl) ?_
  refine lv_iload_n hx hb dL_law_441 rfl (lv_at hl 3 rfl) ?_
  refine lv_iconst (v := 1) hx hb dL_law_442 (by decide) ?_
  refine lv_iadd hx hb dL_law_443 ?_
  refine x_sld S hX hbl hbA hW (hin 1 (by decide)) (ez 1 (by decide)) dL_law_444 ?_
  refine lv_aload_n hx hb dL_law_445 rfl (lv_at hl 0 rfl) ?_
  refine lv_iload_n hx hb dL_law_446 rfl (lv_at hl 3 rfl) ?_
  refine lv_iconst (v := 2) hx hb dL_law_447 (by decide) ?_
  refine lv_iadd hx hb dL_law_448 ?_
  refine x_sld S hX hbl hbA hW (hin 2 (by decide)) (ez 2 (by decide)) dL_law_449 ?_
  have hW := WS.swap hW
  refine back2_i (rest := [.int r]) hW (run_V2 S hW (ct_X12_show l G A2 τ _ (z 1) (z 2) h2) mi_X12_show lk_L_39 (eM_0 G A2 τ) rfl rfl rfl hl (Nat.le_of_ble_eq_true rfl) dL_law_450 ⟨Nat.le_of_ble_eq_true rfl, Nat.le_of_ble_eq_true rfl⟩ rfl rfl hcs) (fun H locs hW => ?_)
  have hW := WS.swap hW
  refine lv_icmp_eq (tgt := 1416) hx hb dL_law_453 (by decide) (fun _ => ?_) (fun q => absurd rfl q)
  exact kk σ1 τ1 H locs hR hW
def ag_holds (n : Nat) (R : SC → SC → Prop) : Prop := ∀ (σ τ : SC) (a1 : Int32), R σ τ → ∃ (r : Int32), f_X11_holds σ a1 = some r ∧ f_X12_holds τ a1 = some r ∧ R σ τ
set_option maxRecDepth 100000 in
set_option maxHeartbeats 4000000 in
theorem lc_holds {p : Program} {l : Launch} {e : Env} {s : State} {m : MethodId} {args : Array Value} {below : List Frame} {meth : Method} {c : Code} {H : Heap} {locs : List Loc} {cells slots : Nat} {Q : State → Prop} {ls : Array Slot} {G : EN} {A : Nat → Prop} {A1 A2 : Nat → Nat} {σ τ : SC} {n bs L : Nat} {xs : Nat → Int32} {i3 : Int32} {R : SC → SC → Prop} (S : CallFix p m c code 4 s args GW RL) (hX : va_X bs L xs s s.heap) (hbl : bs < s.heap.size) (hbA : ¬ A bs) (z : Nat → Int32) (hin : ∀ t, t < 6 → vp_in (i3 + nI t) L) (ez : ∀ t, t < 6 → xs (i3 + nI t).toNatClampNeg = z t) (hcs : cells ≤ room_1.cells ∧ slots ≤ room_1.slots) (ag : ag_holds n R) (hR : R σ τ) (hW : WS G A s (wC G A1 σ ++ wM G A2 τ) H locs) (hl : lv_has ls 4 [(0, .ref bs), (1, .ref (A1 0)), (2, .ref (A2 0)), (3, .int i3)])
    (kk : ∀ (σ1 τ1 : SC) (H1 : Heap) (locs1 : List Loc), R σ1 τ1 → WS G A s (wC G A1 σ1 ++ wM G A2 τ1) H1 locs1 → W p l e room_1 s m args below meth c H1 locs1 cells slots Q (F0 m 1416 ls [])) : W p l e room_1 s m args below meth c H locs cells slots Q (F0 m 458 ls []) := by
  have hx := S.1
  have hb := S.2.1
  refine lv_aload_n hx hb dL_law_458 rfl (lv_at hl 1 rfl) ?_
  refine lv_aload_n hx hb dL_law_459 rfl (lv_at hl 0 rfl) ?_
  refine lv_iload_n hx hb dL_law_460 rfl (lv_at hl 3 rfl) ?_
  refine lv_iconst (v := 1) hx hb dL_law_461 (by decide) ?_
  refine lv_iadd hx hb dL_law_462 ?_
  refine x_sld S hX hbl hbA hW (hin 1 (by decide)) (ez 1 (by decide)) dL_law_463 ?_
  obtain ⟨r, h1, h2, hR⟩ := ag σ τ (z 1) hR
  refine back2_i (rest := []) hW (run_V2 S hW (ct_X11_holds l G A1 σ _ (z 1) h1) mi_X11_holds lk_L_40 (eC_0 G A1 σ) rfl rfl rfl hl (Nat.le_of_ble_eq_true rfl) dL_law_464 ⟨Nat.le_of_ble_eq_true rfl, Nat.le_of_ble_eq_true rfl⟩ rfl rfl hcs) (fun H locs hW => ?_)
  refine lv_aload_n hx hb dL_law_467 rfl (lv_at hl 2 rfl) ?_
  refine lv_aload_n hx hb dL_law_468 rfl (lv_at hl 0 rfl) ?_
  refine lv_iload_n hx hb dL_law_469 rfl (lv_at hl 3 rfl) ?_
  refine lv_iconst (v := 1) hx hb dL_law_470 (by decide) ?_
  refine lv_iadd hx hb dL_law_471 ?_
  refine x_sld S hX hbl hbA hW (hin 1 (by decide)) (ez 1 (by decide)) dL_law_472 ?_
  have hW := WS.swap hW
  refine back2_i (rest := [.int r]) hW (run_V2 S hW (ct_X12_holds l G A2 τ _ (z 1) h2) mi_X12_holds lk_L_44 (eM_0 G A2 τ) rfl rfl rfl hl (Nat.le_of_ble_eq_true rfl) dL_law_473 ⟨Nat.le_of_ble_eq_true rfl, Nat.le_of_ble_eq_true rfl⟩ rfl rfl hcs) (fun H locs hW => ?_)
  have hW := WS.swap hW
  refine lv_icmp_eq (tgt := 1416) hx hb dL_law_476 (by decide) (fun _ => ?_) (fun q => absurd rfl q)
  exact kk σ τ H locs hR hW
def ag_says (n : Nat) (R : SC → SC → Prop) : Prop := ∀ (σ τ : SC) (a1 : Int32) (a2 : Int32), R σ τ → ∃ (r : Int32) (σ1 : SC) (τ1 : SC), f_X11_says σ a1 a2 = some (r, σ1) ∧ f_X12_says τ a1 a2 = some (r, τ1) ∧ R σ1 τ1
set_option maxRecDepth 100000 in
set_option maxHeartbeats 4000000 in
theorem lc_says {p : Program} {l : Launch} {e : Env} {s : State} {m : MethodId} {args : Array Value} {below : List Frame} {meth : Method} {c : Code} {H : Heap} {locs : List Loc} {cells slots : Nat} {Q : State → Prop} {ls : Array Slot} {G : EN} {A : Nat → Prop} {A1 A2 : Nat → Nat} {σ τ : SC} {n bs L : Nat} {xs : Nat → Int32} {i3 : Int32} {R : SC → SC → Prop} (S : CallFix p m c code 4 s args GW RL) (hX : va_X bs L xs s s.heap) (hbl : bs < s.heap.size) (hbA : ¬ A bs) (z : Nat → Int32) (hin : ∀ t, t < 6 → vp_in (i3 + nI t) L) (ez : ∀ t, t < 6 → xs (i3 + nI t).toNatClampNeg = z t) (hcs : cells ≤ room_1.cells ∧ slots ≤ room_1.slots) (ag : ag_says n R) (hR : R σ τ) (hW : WS G A s (wC G A1 σ ++ wM G A2 τ) H locs) (hl : lv_has ls 4 [(0, .ref bs), (1, .ref (A1 0)), (2, .ref (A2 0)), (3, .int i3)])
    (kk : ∀ (σ1 τ1 : SC) (H1 : Heap) (locs1 : List Loc), R σ1 τ1 → WS G A s (wC G A1 σ1 ++ wM G A2 τ1) H1 locs1 → W p l e room_1 s m args below meth c H1 locs1 cells slots Q (F0 m 1416 ls [])) : W p l e room_1 s m args below meth c H locs cells slots Q (F0 m 481 ls []) := by
  have hx := S.1
  have hb := S.2.1
  refine lv_aload_n hx hb dL_law_481 rfl (lv_at hl 1 rfl) ?_
  refine lv_aload_n hx hb dL_law_482 rfl (lv_at hl 0 rfl) ?_
  refine lv_iload_n hx hb dL_law_483 rfl (lv_at hl 3 rfl) ?_
  refine lv_iconst (v := 1) hx hb dL_law_484 (by decide) ?_
  refine lv_iadd hx hb dL_law_485 ?_
  refine x_sld S hX hbl hbA hW (hin 1 (by decide)) (ez 1 (by decide)) dL_law_486 ?_
  refine lv_aload_n hx hb dL_law_487 rfl (lv_at hl 0 rfl) ?_
  refine lv_iload_n hx hb dL_law_488 rfl (lv_at hl 3 rfl) ?_
  refine lv_iconst (v := 2) hx hb dL_law_489 (by decide) ?_
  refine lv_iadd hx hb dL_law_490 ?_
  refine x_sld S hX hbl hbA hW (hin 2 (by decide)) (ez 2 (by decide)) dL_law_491 ?_
  obtain ⟨r, σ1, τ1, h1, h2, hR⟩ := ag σ τ (z 1) (z 2) hR
  refine back2_i (rest := []) hW (run_V2 S hW (ct_X11_says l G A1 σ _ (z 1) (z 2) h1) mi_X11_says lk_L_45 (eC_0 G A1 σ) rfl rfl rfl hl (Nat.le_of_ble_eq_true rfl) dL_law_492 ⟨Nat.le_of_ble_eq_true rfl, Nat.le_of_ble_eq_true rfl⟩ rfl rfl hcs) (fun H locs hW => ?_)
  refine lv_aload_n hx hb dL_law_495 rfl (lv_at hl 2 rfl) ?_
  refine lv_aload_n hx hb dL_law_496 rfl (lv_at hl 0 rfl) ?_
  refine lv_iload_n hx hb dL_law_497 rfl (lv_at hl 3 rfl) ?_
  refine lv_iconst (v := 1) hx hb dL_law_498 (by decide) ?_
  refine lv_iadd hx hb dL_law_499 ?_
  refine x_sld S hX hbl hbA hW (hin 1 (by decide)) (ez 1 (by decide)) dL_law_500 ?_
  refine lv_aload_n hx hb dL_law_501 rfl (lv_at hl 0 rfl) ?_
  refine lv_iload_n hx hb dL_law_502 rfl (lv_at hl 3 rfl) ?_
  refine lv_iconst (v := 2) hx hb dL_law_503 (by decide) ?_
  refine lv_iadd hx hb dL_law_504 ?_
  refine x_sld S hX hbl hbA hW (hin 2 (by decide)) (ez 2 (by decide)) dL_law_505 ?_
  have hW := WS.swap hW
  refine back2_i (rest := [.int r]) hW (run_V2 S hW (ct_X12_says l G A2 τ _ (z 1) (z 2) h2) mi_X12_says lk_L_48 (eM_0 G A2 τ) rfl rfl rfl hl (Nat.le_of_ble_eq_true rfl) dL_law_506 ⟨Nat.le_of_ble_eq_true rfl, Nat.le_of_ble_eq_true rfl⟩ rfl rfl hcs) (fun H locs hW => ?_)
  have hW := WS.swap hW
  refine lv_icmp_eq (tgt := 1416) hx hb dL_law_509 (by decide) (fun _ => ?_) (fun q => absurd rfl q)
  exact kk σ1 τ1 H locs hR hW
def ag_action (n : Nat) (R : SC → SC → Prop) : Prop := ∀ (σ τ : SC) (a1 : Int32) (a2 : Int32) (a3 : Int32) (a4 : Int32), R σ τ → ∃ (r : Int32) (σ1 : SC) (τ1 : SC), f_X11_action σ a1 a2 a3 a4 = some (r, σ1) ∧ f_X12_action τ a1 a2 a3 a4 = some (r, τ1) ∧ R σ1 τ1
set_option maxRecDepth 100000 in
set_option maxHeartbeats 4000000 in
theorem lc_action {p : Program} {l : Launch} {e : Env} {s : State} {m : MethodId} {args : Array Value} {below : List Frame} {meth : Method} {c : Code} {H : Heap} {locs : List Loc} {cells slots : Nat} {Q : State → Prop} {ls : Array Slot} {G : EN} {A : Nat → Prop} {A1 A2 : Nat → Nat} {σ τ : SC} {n bs L : Nat} {xs : Nat → Int32} {i3 : Int32} {R : SC → SC → Prop} (S : CallFix p m c code 4 s args GW RL) (hX : va_X bs L xs s s.heap) (hbl : bs < s.heap.size) (hbA : ¬ A bs) (z : Nat → Int32) (hin : ∀ t, t < 6 → vp_in (i3 + nI t) L) (ez : ∀ t, t < 6 → xs (i3 + nI t).toNatClampNeg = z t) (hcs : cells ≤ room_1.cells ∧ slots ≤ room_1.slots) (ag : ag_action n R) (hR : R σ τ) (hW : WS G A s (wC G A1 σ ++ wM G A2 τ) H locs) (hl : lv_has ls 4 [(0, .ref bs), (1, .ref (A1 0)), (2, .ref (A2 0)), (3, .int i3)])
    (kk : ∀ (σ1 τ1 : SC) (H1 : Heap) (locs1 : List Loc), R σ1 τ1 → WS G A s (wC G A1 σ1 ++ wM G A2 τ1) H1 locs1 → W p l e room_1 s m args below meth c H1 locs1 cells slots Q (F0 m 1416 ls [])) : W p l e room_1 s m args below meth c H locs cells slots Q (F0 m 514 ls []) := by
  have hx := S.1
  have hb := S.2.1
  refine lv_aload_n hx hb dL_law_514 rfl (lv_at hl 1 rfl) ?_
  refine lv_aload_n hx hb dL_law_515 rfl (lv_at hl 0 rfl) ?_
  refine lv_iload_n hx hb dL_law_516 rfl (lv_at hl 3 rfl) ?_
  refine lv_iconst (v := 1) hx hb dL_law_517 (by decide) ?_
  refine lv_iadd hx hb dL_law_518 ?_
  refine x_sld S hX hbl hbA hW (hin 1 (by decide)) (ez 1 (by decide)) dL_law_519 ?_
  refine lv_aload_n hx hb dL_law_520 rfl (lv_at hl 0 rfl) ?_
  refine lv_iload_n hx hb dL_law_521 rfl (lv_at hl 3 rfl) ?_
  refine lv_iconst (v := 2) hx hb dL_law_522 (by decide) ?_
  refine lv_iadd hx hb dL_law_523 ?_
  refine x_sld S hX hbl hbA hW (hin 2 (by decide)) (ez 2 (by decide)) dL_law_524 ?_
  refine lv_aload_n hx hb dL_law_525 rfl (lv_at hl 0 rfl) ?_
  refine lv_iload_n hx hb dL_law_526 rfl (lv_at hl 3 rfl) ?_
  refine lv_iconst (v := 3) hx hb dL_law_527 (by decide) ?_
  refine lv_iadd hx hb dL_law_528 ?_
  refine x_sld S hX hbl hbA hW (hin 3 (by decide)) (ez 3 (by decide)) dL_law_529 ?_
  refine lv_aload_n hx hb dL_law_530 rfl (lv_at hl 0 rfl) ?_
  refine lv_iload_n hx hb dL_law_531 rfl (lv_at hl 3 rfl) ?_
  refine lv_iconst (v := 4) hx hb dL_law_532 (by decide) ?_
  refine lv_iadd hx hb dL_law_533 ?_
  refine x_sld S hX hbl hbA hW (hin 4 (by decide)) (ez 4 (by decide)) dL_law_534 ?_
  obtain ⟨r, σ1, τ1, h1, h2, hR⟩ := ag σ τ (z 1) (z 2) (z 3) (z 4) hR
  refine back2_i (rest := []) hW (run_V2 S hW (ct_X11_action l G A1 σ _ (z 1) (z 2) (z 3) (z 4) h1) mi_X11_action lk_L_49 (eC_0 G A1 σ) rfl rfl rfl hl (Nat.le_of_ble_eq_true rfl) dL_law_535 ⟨Nat.le_of_ble_eq_true rfl, Nat.le_of_ble_eq_true rfl⟩ rfl rfl hcs) (fun H locs hW => ?_)
  refine lv_aload_n hx hb dL_law_538 rfl (lv_at hl 2 rfl) ?_
  refine lv_aload_n hx hb dL_law_539 rfl (lv_at hl 0 rfl) ?_
  refine lv_iload_n hx hb dL_law_540 rfl (lv_at hl 3 rfl) ?_
  refine lv_iconst (v := 1) hx hb dL_law_541 (by decide) ?_
  refine lv_iadd hx hb dL_law_542 ?_
  refine x_sld S hX hbl hbA hW (hin 1 (by decide)) (ez 1 (by decide)) dL_law_543 ?_
  refine lv_aload_n hx hb dL_law_544 rfl (lv_at hl 0 rfl) ?_
  refine lv_iload_n hx hb dL_law_545 rfl (lv_at hl 3 rfl) ?_
  refine lv_iconst (v := 2) hx hb dL_law_546 (by decide) ?_
  refine lv_iadd hx hb dL_law_547 ?_
  refine x_sld S hX hbl hbA hW (hin 2 (by decide)) (ez 2 (by decide)) dL_law_548 ?_
  refine lv_aload_n hx hb dL_law_549 rfl (lv_at hl 0 rfl) ?_
  refine lv_iload_n hx hb dL_law_550 rfl (lv_at hl 3 rfl) ?_
  refine lv_iconst (v := 3) hx hb dL_law_551 (by decide) ?_
  refine lv_iadd hx hb dL_law_552 ?_
  refine x_sld S hX hbl hbA hW (hin 3 (by decide)) (ez 3 (by decide)) dL_law_553 ?_
  refine lv_aload_n hx hb dL_law_554 rfl (lv_at hl 0 rfl) ?_
  refine lv_iload_n hx hb dL_law_555 rfl (lv_at hl 3 rfl) ?_
  refine lv_iconst (v := 4) hx hb dL_law_556 (by decide) ?_
  refine lv_iadd hx hb dL_law_557 ?_
  refine x_sld S hX hbl hbA hW (hin 4 (by decide)) (ez 4 (by decide)) dL_law_558 ?_
  have hW := WS.swap hW
  refine back2_i (rest := [.int r]) hW (run_V2 S hW (ct_X12_action l G A2 τ _ (z 1) (z 2) (z 3) (z 4) h2) mi_X12_action lk_L_53 (eM_0 G A2 τ) rfl rfl rfl hl (Nat.le_of_ble_eq_true rfl) dL_law_559 ⟨Nat.le_of_ble_eq_true rfl, Nat.le_of_ble_eq_true rfl⟩ rfl rfl hcs) (fun H locs hW => ?_)
  have hW := WS.swap hW
  refine lv_icmp_eq (tgt := 1416) hx hb dL_law_562 (by decide) (fun _ => ?_) (fun q => absurd rfl q)
  exact kk σ1 τ1 H locs hR hW
def ag_macro (n : Nat) (R : SC → SC → Prop) : Prop := ∀ (σ τ : SC) (a1 : Int32) (a2 : Int32), R σ τ → ∃ (r : Int32) (σ1 : SC) (τ1 : SC), f_X11_macro σ a1 a2 = some (r, σ1) ∧ f_X12_macro τ a1 a2 = some (r, τ1) ∧ R σ1 τ1
set_option maxRecDepth 100000 in
set_option maxHeartbeats 4000000 in
theorem lc_macro {p : Program} {l : Launch} {e : Env} {s : State} {m : MethodId} {args : Array Value} {below : List Frame} {meth : Method} {c : Code} {H : Heap} {locs : List Loc} {cells slots : Nat} {Q : State → Prop} {ls : Array Slot} {G : EN} {A : Nat → Prop} {A1 A2 : Nat → Nat} {σ τ : SC} {n bs L : Nat} {xs : Nat → Int32} {i3 : Int32} {R : SC → SC → Prop} (S : CallFix p m c code 4 s args GW RL) (hX : va_X bs L xs s s.heap) (hbl : bs < s.heap.size) (hbA : ¬ A bs) (z : Nat → Int32) (hin : ∀ t, t < 6 → vp_in (i3 + nI t) L) (ez : ∀ t, t < 6 → xs (i3 + nI t).toNatClampNeg = z t) (hcs : cells ≤ room_1.cells ∧ slots ≤ room_1.slots) (ag : ag_macro n R) (hR : R σ τ) (hW : WS G A s (wC G A1 σ ++ wM G A2 τ) H locs) (hl : lv_has ls 4 [(0, .ref bs), (1, .ref (A1 0)), (2, .ref (A2 0)), (3, .int i3)])
    (kk : ∀ (σ1 τ1 : SC) (H1 : Heap) (locs1 : List Loc), R σ1 τ1 → WS G A s (wC G A1 σ1 ++ wM G A2 τ1) H1 locs1 → W p l e room_1 s m args below meth c H1 locs1 cells slots Q (F0 m 1416 ls [])) : W p l e room_1 s m args below meth c H locs cells slots Q (F0 m 567 ls []) := by
  have hx := S.1
  have hb := S.2.1
  refine lv_aload_n hx hb dL_law_567 rfl (lv_at hl 1 rfl) ?_
  refine lv_aload_n hx hb dL_law_568 rfl (lv_at hl 0 rfl) ?_
  refine lv_iload_n hx hb dL_law_569 rfl (lv_at hl 3 rfl) ?_
  refine lv_iconst (v := 1) hx hb dL_law_570 (by decide) ?_
  refine lv_iadd hx hb dL_law_571 ?_
  refine x_sld S hX hbl hbA hW (hin 1 (by decide)) (ez 1 (by decide)) dL_law_572 ?_
  refine lv_aload_n hx hb dL_law_573 rfl (lv_at hl 0 rfl) ?_
  refine lv_iload_n hx hb dL_law_574 rfl (lv_at hl 3 rfl) ?_
  refine lv_iconst (v := 2) hx hb dL_law_575 (by decide) ?_
  refine lv_iadd hx hb dL_law_576 ?_
  refine x_sld S hX hbl hbA hW (hin 2 (by decide)) (ez 2 (by decide)) dL_law_577 ?_
  obtain ⟨r, σ1, τ1, h1, h2, hR⟩ := ag σ τ (z 1) (z 2) hR
  refine back2_i (rest := []) hW (run_V2 S hW (ct_X11_macro l G A1 σ _ (z 1) (z 2) h1) mi_X11_macro lk_L_54 (eC_0 G A1 σ) rfl rfl rfl hl (Nat.le_of_ble_eq_true rfl) dL_law_578 ⟨Nat.le_of_ble_eq_true rfl, Nat.le_of_ble_eq_true rfl⟩ rfl rfl hcs) (fun H locs hW => ?_)
  refine lv_aload_n hx hb dL_law_581 rfl (lv_at hl 2 rfl) ?_
  refine lv_aload_n hx hb dL_law_582 rfl (lv_at hl 0 rfl) ?_
  refine lv_iload_n hx hb dL_law_583 rfl (lv_at hl 3 rfl) ?_
  refine lv_iconst (v := 1) hx hb dL_law_584 (by decide) ?_
  refine lv_iadd hx hb dL_law_585 ?_
  refine x_sld S hX hbl hbA hW (hin 1 (by decide)) (ez 1 (by decide)) dL_law_586 ?_
  refine lv_aload_n hx hb dL_law_587 rfl (lv_at hl 0 rfl) ?_
  refine lv_iload_n hx hb dL_law_588 rfl (lv_at hl 3 rfl) ?_
  refine lv_iconst (v := 2) hx hb dL_law_589 (by decide) ?_
  refine lv_iadd hx hb dL_law_590 ?_
  refine x_sld S hX hbl hbA hW (hin 2 (by decide)) (ez 2 (by decide)) dL_law_591 ?_
  have hW := WS.swap hW
  refine back2_i (rest := [.int r]) hW (run_V2 S hW (ct_X12_macro l G A2 τ _ (z 1) (z 2) h2) mi_X12_macro lk_L_57 (eM_0 G A2 τ) rfl rfl rfl hl (Nat.le_of_ble_eq_true rfl) dL_law_592 ⟨Nat.le_of_ble_eq_true rfl, Nat.le_of_ble_eq_true rfl⟩ rfl rfl hcs) (fun H locs hW => ?_)
  have hW := WS.swap hW
  refine lv_icmp_eq (tgt := 1416) hx hb dL_law_595 (by decide) (fun _ => ?_) (fun q => absurd rfl q)
  exact kk σ1 τ1 H locs hR hW
def ag_read (n : Nat) (R : SC → SC → Prop) : Prop := ∀ (σ τ : SC) (a1 : Int32), R σ τ → ∃ (r : Int32) (σ1 : SC) (τ1 : SC), f_X11_read n σ a1 = some (r, σ1) ∧ f_X12_read n τ a1 = some (r, τ1) ∧ R σ1 τ1
set_option maxRecDepth 100000 in
set_option maxHeartbeats 4000000 in
theorem lc_read {p : Program} {l : Launch} {e : Env} {s : State} {m : MethodId} {args : Array Value} {below : List Frame} {meth : Method} {c : Code} {H : Heap} {locs : List Loc} {cells slots : Nat} {Q : State → Prop} {ls : Array Slot} {G : EN} {A : Nat → Prop} {A1 A2 : Nat → Nat} {σ τ : SC} {n bs L : Nat} {xs : Nat → Int32} {i3 : Int32} {R : SC → SC → Prop} (S : CallFix p m c code 4 s args GW RL) (hX : va_X bs L xs s s.heap) (hbl : bs < s.heap.size) (hbA : ¬ A bs) (z : Nat → Int32) (hin : ∀ t, t < 6 → vp_in (i3 + nI t) L) (ez : ∀ t, t < 6 → xs (i3 + nI t).toNatClampNeg = z t) (hcs : cells ≤ room_1.cells ∧ slots ≤ room_1.slots) (ag : ag_read n R) (hR : R σ τ) (hW : WS G A s (wC G A1 σ ++ wM G A2 τ) H locs) (hl : lv_has ls 4 [(0, .ref bs), (1, .ref (A1 0)), (2, .ref (A2 0)), (3, .int i3)])
    (kk : ∀ (σ1 τ1 : SC) (H1 : Heap) (locs1 : List Loc), R σ1 τ1 → WS G A s (wC G A1 σ1 ++ wM G A2 τ1) H1 locs1 → W p l e room_1 s m args below meth c H1 locs1 cells slots Q (F0 m 1416 ls [])) : W p l e room_1 s m args below meth c H locs cells slots Q (F0 m 600 ls []) := by
  have hx := S.1
  have hb := S.2.1
  refine lv_aload_n hx hb dL_law_600 rfl (lv_at hl 1 rfl) ?_
  refine lv_aload_n hx hb dL_law_601 rfl (lv_at hl 0 rfl) ?_
  refine lv_iload_n hx hb dL_law_602 rfl (lv_at hl 3 rfl) ?_
  refine lv_iconst (v := 1) hx hb dL_law_603 (by decide) ?_
  refine lv_iadd hx hb dL_law_604 ?_
  refine x_sld S hX hbl hbA hW (hin 1 (by decide)) (ez 1 (by decide)) dL_law_605 ?_
  obtain ⟨r, σ1, τ1, h1, h2, hR⟩ := ag σ τ (z 1) hR
  refine back2_i (rest := []) hW (run_V2 S hW (ct_X11_read l n G A1 σ _ (z 1) h1) mi_X11_read lk_L_58 (eC_0 G A1 σ) rfl rfl rfl hl (Nat.le_of_ble_eq_true rfl) dL_law_606 ⟨Nat.le_of_ble_eq_true rfl, Nat.le_of_ble_eq_true rfl⟩ rfl rfl hcs) (fun H locs hW => ?_)
  refine lv_aload_n hx hb dL_law_609 rfl (lv_at hl 2 rfl) ?_
  refine lv_aload_n hx hb dL_law_610 rfl (lv_at hl 0 rfl) ?_
  refine lv_iload_n hx hb dL_law_611 rfl (lv_at hl 3 rfl) ?_
  refine lv_iconst (v := 1) hx hb dL_law_612 (by decide) ?_
  refine lv_iadd hx hb dL_law_613 ?_
  refine x_sld S hX hbl hbA hW (hin 1 (by decide)) (ez 1 (by decide)) dL_law_614 ?_
  have hW := WS.swap hW
  refine back2_i (rest := [.int r]) hW (run_V2 S hW (ct_X12_read l n G A2 τ _ (z 1) h2) mi_X12_read lk_L_61 (eM_0 G A2 τ) rfl rfl rfl hl (Nat.le_of_ble_eq_true rfl) dL_law_615 ⟨Nat.le_of_ble_eq_true rfl, Nat.le_of_ble_eq_true rfl⟩ rfl rfl hcs) (fun H locs hW => ?_)
  have hW := WS.swap hW
  refine lv_icmp_eq (tgt := 1416) hx hb dL_law_618 (by decide) (fun _ => ?_) (fun q => absurd rfl q)
  exact kk σ1 τ1 H locs hR hW
def ag_fault (n : Nat) (R : SC → SC → Prop) : Prop := ∀ (σ τ : SC), R σ τ → ∃ (r : Int32), f_X11_fault σ = r ∧ f_X12_fault τ = r ∧ R σ τ
set_option maxRecDepth 100000 in
set_option maxHeartbeats 4000000 in
theorem lc_fault {p : Program} {l : Launch} {e : Env} {s : State} {m : MethodId} {args : Array Value} {below : List Frame} {meth : Method} {c : Code} {H : Heap} {locs : List Loc} {cells slots : Nat} {Q : State → Prop} {ls : Array Slot} {G : EN} {A : Nat → Prop} {A1 A2 : Nat → Nat} {σ τ : SC} {n bs L : Nat} {xs : Nat → Int32} {i3 : Int32} {R : SC → SC → Prop} (S : CallFix p m c code 4 s args GW RL) (hX : va_X bs L xs s s.heap) (hbl : bs < s.heap.size) (hbA : ¬ A bs) (z : Nat → Int32) (hin : ∀ t, t < 6 → vp_in (i3 + nI t) L) (ez : ∀ t, t < 6 → xs (i3 + nI t).toNatClampNeg = z t) (hcs : cells ≤ room_1.cells ∧ slots ≤ room_1.slots) (ag : ag_fault n R) (hR : R σ τ) (hW : WS G A s (wC G A1 σ ++ wM G A2 τ) H locs) (hl : lv_has ls 4 [(0, .ref bs), (1, .ref (A1 0)), (2, .ref (A2 0)), (3, .int i3)])
    (kk : ∀ (σ1 τ1 : SC) (H1 : Heap) (locs1 : List Loc), R σ1 τ1 → WS G A s (wC G A1 σ1 ++ wM G A2 τ1) H1 locs1 → W p l e room_1 s m args below meth c H1 locs1 cells slots Q (F0 m 1416 ls [])) : W p l e room_1 s m args below meth c H locs cells slots Q (F0 m 623 ls []) := by
  have hx := S.1
  have hb := S.2.1
  refine lv_aload_n hx hb dL_law_623 rfl (lv_at hl 1 rfl) ?_
  obtain ⟨r, h1, h2, hR⟩ := ag σ τ  hR
  refine back2_i (rest := []) hW (run_V2 S hW (ct_X11_fault l G A1 σ _  h1) mi_X11_fault lk_L_62 (eC_0 G A1 σ) rfl rfl rfl hl (Nat.le_of_ble_eq_true rfl) dL_law_624 ⟨Nat.le_of_ble_eq_true rfl, Nat.le_of_ble_eq_true rfl⟩ rfl rfl hcs) (fun H locs hW => ?_)
  refine lv_aload_n hx hb dL_law_627 rfl (lv_at hl 2 rfl) ?_
  have hW := WS.swap hW
  refine back2_i (rest := [.int r]) hW (run_V2 S hW (ct_X12_fault l G A2 τ _  h2) mi_X12_fault lk_L_66 (eM_0 G A2 τ) rfl rfl rfl hl (Nat.le_of_ble_eq_true rfl) dL_law_628 ⟨Nat.le_of_ble_eq_true rfl, Nat.le_of_ble_eq_true rfl⟩ rfl rfl hcs) (fun H locs hW => ?_)
  have hW := WS.swap hW
  refine lv_icmp_eq (tgt := 1416) hx hb dL_law_631 (by decide) (fun _ => ?_) (fun q => absurd rfl q)
  exact kk σ τ H locs hR hW
def ag_put (n : Nat) (R : SC → SC → Prop) : Prop := ∀ (σ τ : SC) (a1 : Int32) (a2 : Int32), R σ τ → ∃ (r : Int32) (σ1 : SC) (τ1 : SC), f_X11_put σ a1 a2 = some (r, σ1) ∧ f_X12_put τ a1 a2 = some (r, τ1) ∧ R σ1 τ1
set_option maxRecDepth 100000 in
set_option maxHeartbeats 4000000 in
theorem lc_put {p : Program} {l : Launch} {e : Env} {s : State} {m : MethodId} {args : Array Value} {below : List Frame} {meth : Method} {c : Code} {H : Heap} {locs : List Loc} {cells slots : Nat} {Q : State → Prop} {ls : Array Slot} {G : EN} {A : Nat → Prop} {A1 A2 : Nat → Nat} {σ τ : SC} {n bs L : Nat} {xs : Nat → Int32} {i3 : Int32} {R : SC → SC → Prop} (S : CallFix p m c code 4 s args GW RL) (hX : va_X bs L xs s s.heap) (hbl : bs < s.heap.size) (hbA : ¬ A bs) (z : Nat → Int32) (hin : ∀ t, t < 6 → vp_in (i3 + nI t) L) (ez : ∀ t, t < 6 → xs (i3 + nI t).toNatClampNeg = z t) (hcs : cells ≤ room_1.cells ∧ slots ≤ room_1.slots) (ag : ag_put n R) (hR : R σ τ) (hW : WS G A s (wC G A1 σ ++ wM G A2 τ) H locs) (hl : lv_has ls 4 [(0, .ref bs), (1, .ref (A1 0)), (2, .ref (A2 0)), (3, .int i3)])
    (kk : ∀ (σ1 τ1 : SC) (H1 : Heap) (locs1 : List Loc), R σ1 τ1 → WS G A s (wC G A1 σ1 ++ wM G A2 τ1) H1 locs1 → W p l e room_1 s m args below meth c H1 locs1 cells slots Q (F0 m 1416 ls [])) : W p l e room_1 s m args below meth c H locs cells slots Q (F0 m 636 ls []) := by
  have hx := S.1
  have hb := S.2.1
  refine lv_aload_n hx hb dL_law_636 rfl (lv_at hl 1 rfl) ?_
  refine lv_aload_n hx hb dL_law_637 rfl (lv_at hl 0 rfl) ?_
  refine lv_iload_n hx hb dL_law_638 rfl (lv_at hl 3 rfl) ?_
  refine lv_iconst (v := 1) hx hb dL_law_639 (by decide) ?_
  refine lv_iadd hx hb dL_law_640 ?_
  refine x_sld S hX hbl hbA hW (hin 1 (by decide)) (ez 1 (by decide)) dL_law_641 ?_
  refine lv_aload_n hx hb dL_law_642 rfl (lv_at hl 0 rfl) ?_
  refine lv_iload_n hx hb dL_law_643 rfl (lv_at hl 3 rfl) ?_
  refine lv_iconst (v := 2) hx hb dL_law_644 (by decide) ?_
  refine lv_iadd hx hb dL_law_645 ?_
  refine x_sld S hX hbl hbA hW (hin 2 (by decide)) (ez 2 (by decide)) dL_law_646 ?_
  obtain ⟨r, σ1, τ1, h1, h2, hR⟩ := ag σ τ (z 1) (z 2) hR
  refine back2_i (rest := []) hW (run_V2 S hW (ct_X11_put l G A1 σ _ (z 1) (z 2) h1) mi_X11_put lk_L_67 (eC_0 G A1 σ) rfl rfl rfl hl (Nat.le_of_ble_eq_true rfl) dL_law_647 ⟨Nat.le_of_ble_eq_true rfl, Nat.le_of_ble_eq_true rfl⟩ rfl rfl hcs) (fun H locs hW => ?_)
  refine lv_aload_n hx hb dL_law_650 rfl (lv_at hl 2 rfl) ?_
  refine lv_aload_n hx hb dL_law_651 rfl (lv_at hl 0 rfl) ?_
  refine lv_iload_n hx hb dL_law_652 rfl (lv_at hl 3 rfl) ?_
  refine lv_iconst (v := 1) hx hb dL_law_653 (by decide) ?_
  refine lv_iadd hx hb dL_law_654 ?_
  refine x_sld S hX hbl hbA hW (hin 1 (by decide)) (ez 1 (by decide)) dL_law_655 ?_
  refine lv_aload_n hx hb dL_law_656 rfl (lv_at hl 0 rfl) ?_
  refine lv_iload_n hx hb dL_law_657 rfl (lv_at hl 3 rfl) ?_
  refine lv_iconst (v := 2) hx hb dL_law_658 (by decide) ?_
  refine lv_iadd hx hb dL_law_659 ?_
  refine x_sld S hX hbl hbA hW (hin 2 (by decide)) (ez 2 (by decide)) dL_law_660 ?_
  have hW := WS.swap hW
  refine back2_i (rest := [.int r]) hW (run_V2 S hW (ct_X12_put l G A2 τ _ (z 1) (z 2) h2) mi_X12_put lk_L_70 (eM_0 G A2 τ) rfl rfl rfl hl (Nat.le_of_ble_eq_true rfl) dL_law_661 ⟨Nat.le_of_ble_eq_true rfl, Nat.le_of_ble_eq_true rfl⟩ rfl rfl hcs) (fun H locs hW => ?_)
  have hW := WS.swap hW
  refine lv_icmp_eq (tgt := 1416) hx hb dL_law_664 (by decide) (fun _ => ?_) (fun q => absurd rfl q)
  exact kk σ1 τ1 H locs hR hW
def ag_actionOf (n : Nat) (R : SC → SC → Prop) : Prop := ∀ (σ τ : SC) (a1 : Int32) (a2 : Int32), R σ τ → ∃ (r : Int32) (σ1 : SC) (τ1 : SC), f_X11_actionOf σ a1 a2 = some (r, σ1) ∧ f_X12_actionOf τ a1 a2 = some (r, τ1) ∧ R σ1 τ1
set_option maxRecDepth 100000 in
set_option maxHeartbeats 4000000 in
theorem lc_actionOf {p : Program} {l : Launch} {e : Env} {s : State} {m : MethodId} {args : Array Value} {below : List Frame} {meth : Method} {c : Code} {H : Heap} {locs : List Loc} {cells slots : Nat} {Q : State → Prop} {ls : Array Slot} {G : EN} {A : Nat → Prop} {A1 A2 : Nat → Nat} {σ τ : SC} {n bs L : Nat} {xs : Nat → Int32} {i3 : Int32} {R : SC → SC → Prop} (S : CallFix p m c code 4 s args GW RL) (hX : va_X bs L xs s s.heap) (hbl : bs < s.heap.size) (hbA : ¬ A bs) (z : Nat → Int32) (hin : ∀ t, t < 6 → vp_in (i3 + nI t) L) (ez : ∀ t, t < 6 → xs (i3 + nI t).toNatClampNeg = z t) (hcs : cells ≤ room_1.cells ∧ slots ≤ room_1.slots) (ag : ag_actionOf n R) (hR : R σ τ) (hW : WS G A s (wC G A1 σ ++ wM G A2 τ) H locs) (hl : lv_has ls 4 [(0, .ref bs), (1, .ref (A1 0)), (2, .ref (A2 0)), (3, .int i3)])
    (kk : ∀ (σ1 τ1 : SC) (H1 : Heap) (locs1 : List Loc), R σ1 τ1 → WS G A s (wC G A1 σ1 ++ wM G A2 τ1) H1 locs1 → W p l e room_1 s m args below meth c H1 locs1 cells slots Q (F0 m 1416 ls [])) : W p l e room_1 s m args below meth c H locs cells slots Q (F0 m 669 ls []) := by
  have hx := S.1
  have hb := S.2.1
  refine lv_aload_n hx hb dL_law_669 rfl (lv_at hl 1 rfl) ?_
  refine lv_aload_n hx hb dL_law_670 rfl (lv_at hl 0 rfl) ?_
  refine lv_iload_n hx hb dL_law_671 rfl (lv_at hl 3 rfl) ?_
  refine lv_iconst (v := 1) hx hb dL_law_672 (by decide) ?_
  refine lv_iadd hx hb dL_law_673 ?_
  refine x_sld S hX hbl hbA hW (hin 1 (by decide)) (ez 1 (by decide)) dL_law_674 ?_
  refine lv_aload_n hx hb dL_law_675 rfl (lv_at hl 0 rfl) ?_
  refine lv_iload_n hx hb dL_law_676 rfl (lv_at hl 3 rfl) ?_
  refine lv_iconst (v := 2) hx hb dL_law_677 (by decide) ?_
  refine lv_iadd hx hb dL_law_678 ?_
  refine x_sld S hX hbl hbA hW (hin 2 (by decide)) (ez 2 (by decide)) dL_law_679 ?_
  obtain ⟨r, σ1, τ1, h1, h2, hR⟩ := ag σ τ (z 1) (z 2) hR
  refine back2_i (rest := []) hW (run_V2 S hW (ct_X11_actionOf l G A1 σ _ (z 1) (z 2) h1) mi_X11_actionOf lk_L_71 (eC_0 G A1 σ) rfl rfl rfl hl (Nat.le_of_ble_eq_true rfl) dL_law_680 ⟨Nat.le_of_ble_eq_true rfl, Nat.le_of_ble_eq_true rfl⟩ rfl rfl hcs) (fun H locs hW => ?_)
  refine lv_aload_n hx hb dL_law_683 rfl (lv_at hl 2 rfl) ?_
  refine lv_aload_n hx hb dL_law_684 rfl (lv_at hl 0 rfl) ?_
  refine lv_iload_n hx hb dL_law_685 rfl (lv_at hl 3 rfl) ?_
  refine lv_iconst (v := 1) hx hb dL_law_686 (by decide) ?_
  refine lv_iadd hx hb dL_law_687 ?_
  refine x_sld S hX hbl hbA hW (hin 1 (by decide)) (ez 1 (by decide)) dL_law_688 ?_
  refine lv_aload_n hx hb dL_law_689 rfl (lv_at hl 0 rfl) ?_
  refine lv_iload_n hx hb dL_law_690 rfl (lv_at hl 3 rfl) ?_
  refine lv_iconst (v := 2) hx hb dL_law_691 (by decide) ?_
  refine lv_iadd hx hb dL_law_692 ?_
  refine x_sld S hX hbl hbA hW (hin 2 (by decide)) (ez 2 (by decide)) dL_law_693 ?_
  have hW := WS.swap hW
  refine back2_i (rest := [.int r]) hW (run_V2 S hW (ct_X12_actionOf l G A2 τ _ (z 1) (z 2) h2) mi_X12_actionOf lk_L_74 (eM_0 G A2 τ) rfl rfl rfl hl (Nat.le_of_ble_eq_true rfl) dL_law_694 ⟨Nat.le_of_ble_eq_true rfl, Nat.le_of_ble_eq_true rfl⟩ rfl rfl hcs) (fun H locs hW => ?_)
  have hW := WS.swap hW
  refine lv_icmp_eq (tgt := 1416) hx hb dL_law_697 (by decide) (fun _ => ?_) (fun q => absurd rfl q)
  exact kk σ1 τ1 H locs hR hW
def ag_may (n : Nat) (R : SC → SC → Prop) : Prop := ∀ (σ τ : SC) (a1 : Int32), R σ τ → ∃ (r : Int32) (σ1 : SC) (τ1 : SC), f_X11_may n σ a1 = some (r, σ1) ∧ f_X12_may n τ a1 = some (r, τ1) ∧ R σ1 τ1
set_option maxRecDepth 100000 in
set_option maxHeartbeats 4000000 in
theorem lc_may {p : Program} {l : Launch} {e : Env} {s : State} {m : MethodId} {args : Array Value} {below : List Frame} {meth : Method} {c : Code} {H : Heap} {locs : List Loc} {cells slots : Nat} {Q : State → Prop} {ls : Array Slot} {G : EN} {A : Nat → Prop} {A1 A2 : Nat → Nat} {σ τ : SC} {n bs L : Nat} {xs : Nat → Int32} {i3 : Int32} {R : SC → SC → Prop} (S : CallFix p m c code 4 s args GW RL) (hX : va_X bs L xs s s.heap) (hbl : bs < s.heap.size) (hbA : ¬ A bs) (z : Nat → Int32) (hin : ∀ t, t < 6 → vp_in (i3 + nI t) L) (ez : ∀ t, t < 6 → xs (i3 + nI t).toNatClampNeg = z t) (hcs : cells ≤ room_1.cells ∧ slots ≤ room_1.slots) (ag : ag_may n R) (hR : R σ τ) (hW : WS G A s (wC G A1 σ ++ wM G A2 τ) H locs) (hl : lv_has ls 4 [(0, .ref bs), (1, .ref (A1 0)), (2, .ref (A2 0)), (3, .int i3)])
    (kk : ∀ (σ1 τ1 : SC) (H1 : Heap) (locs1 : List Loc), R σ1 τ1 → WS G A s (wC G A1 σ1 ++ wM G A2 τ1) H1 locs1 → W p l e room_1 s m args below meth c H1 locs1 cells slots Q (F0 m 1416 ls [])) : W p l e room_1 s m args below meth c H locs cells slots Q (F0 m 702 ls []) := by
  have hx := S.1
  have hb := S.2.1
  refine lv_aload_n hx hb dL_law_702 rfl (lv_at hl 1 rfl) ?_
  refine lv_aload_n hx hb dL_law_703 rfl (lv_at hl 0 rfl) ?_
  refine lv_iload_n hx hb dL_law_704 rfl (lv_at hl 3 rfl) ?_
  refine lv_iconst (v := 1) hx hb dL_law_705 (by decide) ?_
  refine lv_iadd hx hb dL_law_706 ?_
  refine x_sld S hX hbl hbA hW (hin 1 (by decide)) (ez 1 (by decide)) dL_law_707 ?_
  obtain ⟨r, σ1, τ1, h1, h2, hR⟩ := ag σ τ (z 1) hR
  refine back2_i (rest := []) hW (run_V2 S hW (ct_X11_may l n G A1 σ _ (z 1) h1) mi_X11_may lk_L_75 (eC_0 G A1 σ) rfl rfl rfl hl (Nat.le_of_ble_eq_true rfl) dL_law_708 ⟨Nat.le_of_ble_eq_true rfl, Nat.le_of_ble_eq_true rfl⟩ rfl rfl hcs) (fun H locs hW => ?_)
  refine lv_aload_n hx hb dL_law_711 rfl (lv_at hl 2 rfl) ?_
  refine lv_aload_n hx hb dL_law_712 rfl (lv_at hl 0 rfl) ?_
  refine lv_iload_n hx hb dL_law_713 rfl (lv_at hl 3 rfl) ?_
  refine lv_iconst (v := 1) hx hb dL_law_714 (by decide) ?_
  refine lv_iadd hx hb dL_law_715 ?_
  refine x_sld S hX hbl hbA hW (hin 1 (by decide)) (ez 1 (by decide)) dL_law_716 ?_
  have hW := WS.swap hW
  refine back2_i (rest := [.int r]) hW (run_V2 S hW (ct_X12_may l n G A2 τ _ (z 1) h2) mi_X12_may lk_L_78 (eM_0 G A2 τ) rfl rfl rfl hl (Nat.le_of_ble_eq_true rfl) dL_law_717 ⟨Nat.le_of_ble_eq_true rfl, Nat.le_of_ble_eq_true rfl⟩ rfl rfl hcs) (fun H locs hW => ?_)
  have hW := WS.swap hW
  refine lv_icmp_eq (tgt := 1416) hx hb dL_law_720 (by decide) (fun _ => ?_) (fun q => absurd rfl q)
  exact kk σ1 τ1 H locs hR hW
def ag_then (n : Nat) (R : SC → SC → Prop) : Prop := ∀ (σ τ : SC) (a1 : Int32) (a2 : Int32), R σ τ → ∃ (r : Int32) (σ1 : SC) (τ1 : SC), f_X11_then σ a1 a2 = some (r, σ1) ∧ f_X12_then τ a1 a2 = some (r, τ1) ∧ R σ1 τ1
set_option maxRecDepth 100000 in
set_option maxHeartbeats 4000000 in
theorem lc_then {p : Program} {l : Launch} {e : Env} {s : State} {m : MethodId} {args : Array Value} {below : List Frame} {meth : Method} {c : Code} {H : Heap} {locs : List Loc} {cells slots : Nat} {Q : State → Prop} {ls : Array Slot} {G : EN} {A : Nat → Prop} {A1 A2 : Nat → Nat} {σ τ : SC} {n bs L : Nat} {xs : Nat → Int32} {i3 : Int32} {R : SC → SC → Prop} (S : CallFix p m c code 4 s args GW RL) (hX : va_X bs L xs s s.heap) (hbl : bs < s.heap.size) (hbA : ¬ A bs) (z : Nat → Int32) (hin : ∀ t, t < 6 → vp_in (i3 + nI t) L) (ez : ∀ t, t < 6 → xs (i3 + nI t).toNatClampNeg = z t) (hcs : cells ≤ room_1.cells ∧ slots ≤ room_1.slots) (ag : ag_then n R) (hR : R σ τ) (hW : WS G A s (wC G A1 σ ++ wM G A2 τ) H locs) (hl : lv_has ls 4 [(0, .ref bs), (1, .ref (A1 0)), (2, .ref (A2 0)), (3, .int i3)])
    (kk : ∀ (σ1 τ1 : SC) (H1 : Heap) (locs1 : List Loc), R σ1 τ1 → WS G A s (wC G A1 σ1 ++ wM G A2 τ1) H1 locs1 → W p l e room_1 s m args below meth c H1 locs1 cells slots Q (F0 m 1416 ls [])) : W p l e room_1 s m args below meth c H locs cells slots Q (F0 m 725 ls []) := by
  have hx := S.1
  have hb := S.2.1
  refine lv_aload_n hx hb dL_law_725 rfl (lv_at hl 1 rfl) ?_
  refine lv_aload_n hx hb dL_law_726 rfl (lv_at hl 0 rfl) ?_
  refine lv_iload_n hx hb dL_law_727 rfl (lv_at hl 3 rfl) ?_
  refine lv_iconst (v := 1) hx hb dL_law_728 (by decide) ?_
  refine lv_iadd hx hb dL_law_729 ?_
  refine x_sld S hX hbl hbA hW (hin 1 (by decide)) (ez 1 (by decide)) dL_law_730 ?_
  refine lv_aload_n hx hb dL_law_731 rfl (lv_at hl 0 rfl) ?_
  refine lv_iload_n hx hb dL_law_732 rfl (lv_at hl 3 rfl) ?_
  refine lv_iconst (v := 2) hx hb dL_law_733 (by decide) ?_
  refine lv_iadd hx hb dL_law_734 ?_
  refine x_sld S hX hbl hbA hW (hin 2 (by decide)) (ez 2 (by decide)) dL_law_735 ?_
  obtain ⟨r, σ1, τ1, h1, h2, hR⟩ := ag σ τ (z 1) (z 2) hR
  refine back2_i (rest := []) hW (run_V2 S hW (ct_X11_then l G A1 σ _ (z 1) (z 2) h1) mi_X11_then lk_L_79 (eC_0 G A1 σ) rfl rfl rfl hl (Nat.le_of_ble_eq_true rfl) dL_law_736 ⟨Nat.le_of_ble_eq_true rfl, Nat.le_of_ble_eq_true rfl⟩ rfl rfl hcs) (fun H locs hW => ?_)
  refine lv_aload_n hx hb dL_law_739 rfl (lv_at hl 2 rfl) ?_
  refine lv_aload_n hx hb dL_law_740 rfl (lv_at hl 0 rfl) ?_
  refine lv_iload_n hx hb dL_law_741 rfl (lv_at hl 3 rfl) ?_
  refine lv_iconst (v := 1) hx hb dL_law_742 (by decide) ?_
  refine lv_iadd hx hb dL_law_743 ?_
  refine x_sld S hX hbl hbA hW (hin 1 (by decide)) (ez 1 (by decide)) dL_law_744 ?_
  refine lv_aload_n hx hb dL_law_745 rfl (lv_at hl 0 rfl) ?_
  refine lv_iload_n hx hb dL_law_746 rfl (lv_at hl 3 rfl) ?_
  refine lv_iconst (v := 2) hx hb dL_law_747 (by decide) ?_
  refine lv_iadd hx hb dL_law_748 ?_
  refine x_sld S hX hbl hbA hW (hin 2 (by decide)) (ez 2 (by decide)) dL_law_749 ?_
  have hW := WS.swap hW
  refine back2_i (rest := [.int r]) hW (run_V2 S hW (ct_X12_then l G A2 τ _ (z 1) (z 2) h2) mi_X12_then lk_L_82 (eM_0 G A2 τ) rfl rfl rfl hl (Nat.le_of_ble_eq_true rfl) dL_law_750 ⟨Nat.le_of_ble_eq_true rfl, Nat.le_of_ble_eq_true rfl⟩ rfl rfl hcs) (fun H locs hW => ?_)
  have hW := WS.swap hW
  refine lv_icmp_eq (tgt := 1416) hx hb dL_law_753 (by decide) (fun _ => ?_) (fun q => absurd rfl q)
  exact kk σ1 τ1 H locs hR hW
def ag_level (n : Nat) (R : SC → SC → Prop) : Prop := ∀ (σ τ : SC) (a1 : Int32) (a2 : Int32), R σ τ → ∃ (r : Int32) (σ1 : SC) (τ1 : SC), f_X11_level n σ a1 a2 = some (r, σ1) ∧ f_X12_level n τ a1 a2 = some (r, τ1) ∧ R σ1 τ1
set_option maxRecDepth 100000 in
set_option maxHeartbeats 4000000 in
theorem lc_level {p : Program} {l : Launch} {e : Env} {s : State} {m : MethodId} {args : Array Value} {below : List Frame} {meth : Method} {c : Code} {H : Heap} {locs : List Loc} {cells slots : Nat} {Q : State → Prop} {ls : Array Slot} {G : EN} {A : Nat → Prop} {A1 A2 : Nat → Nat} {σ τ : SC} {n bs L : Nat} {xs : Nat → Int32} {i3 : Int32} {R : SC → SC → Prop} (S : CallFix p m c code 4 s args GW RL) (hX : va_X bs L xs s s.heap) (hbl : bs < s.heap.size) (hbA : ¬ A bs) (z : Nat → Int32) (hin : ∀ t, t < 6 → vp_in (i3 + nI t) L) (ez : ∀ t, t < 6 → xs (i3 + nI t).toNatClampNeg = z t) (hcs : cells ≤ room_1.cells ∧ slots ≤ room_1.slots) (ag : ag_level n R) (hR : R σ τ) (hW : WS G A s (wC G A1 σ ++ wM G A2 τ) H locs) (hl : lv_has ls 4 [(0, .ref bs), (1, .ref (A1 0)), (2, .ref (A2 0)), (3, .int i3)])
    (kk : ∀ (σ1 τ1 : SC) (H1 : Heap) (locs1 : List Loc), R σ1 τ1 → WS G A s (wC G A1 σ1 ++ wM G A2 τ1) H1 locs1 → W p l e room_1 s m args below meth c H1 locs1 cells slots Q (F0 m 1416 ls [])) : W p l e room_1 s m args below meth c H locs cells slots Q (F0 m 758 ls []) := by
  have hx := S.1
  have hb := S.2.1
  refine lv_aload_n hx hb dL_law_758 rfl (lv_at hl 1 rfl) ?_
  refine lv_aload_n hx hb dL_law_759 rfl (lv_at hl 0 rfl) ?_
  refine lv_iload_n hx hb dL_law_760 rfl (lv_at hl 3 rfl) ?_
  refine lv_iconst (v := 1) hx hb dL_law_761 (by decide) ?_
  refine lv_iadd hx hb dL_law_762 ?_
  refine x_sld S hX hbl hbA hW (hin 1 (by decide)) (ez 1 (by decide)) dL_law_763 ?_
  refine lv_aload_n hx hb dL_law_764 rfl (lv_at hl 0 rfl) ?_
  refine lv_iload_n hx hb dL_law_765 rfl (lv_at hl 3 rfl) ?_
  refine lv_iconst (v := 2) hx hb dL_law_766 (by decide) ?_
  refine lv_iadd hx hb dL_law_767 ?_
  refine x_sld S hX hbl hbA hW (hin 2 (by decide)) (ez 2 (by decide)) dL_law_768 ?_
  obtain ⟨r, σ1, τ1, h1, h2, hR⟩ := ag σ τ (z 1) (z 2) hR
  refine back2_i (rest := []) hW (run_V2 S hW (ct_X11_level l n G A1 σ _ (z 1) (z 2) h1) mi_X11_level lk_L_83 (eC_0 G A1 σ) rfl rfl rfl hl (Nat.le_of_ble_eq_true rfl) dL_law_769 ⟨Nat.le_of_ble_eq_true rfl, Nat.le_of_ble_eq_true rfl⟩ rfl rfl hcs) (fun H locs hW => ?_)
  refine lv_aload_n hx hb dL_law_772 rfl (lv_at hl 2 rfl) ?_
  refine lv_aload_n hx hb dL_law_773 rfl (lv_at hl 0 rfl) ?_
  refine lv_iload_n hx hb dL_law_774 rfl (lv_at hl 3 rfl) ?_
  refine lv_iconst (v := 1) hx hb dL_law_775 (by decide) ?_
  refine lv_iadd hx hb dL_law_776 ?_
  refine x_sld S hX hbl hbA hW (hin 1 (by decide)) (ez 1 (by decide)) dL_law_777 ?_
  refine lv_aload_n hx hb dL_law_778 rfl (lv_at hl 0 rfl) ?_
  refine lv_iload_n hx hb dL_law_779 rfl (lv_at hl 3 rfl) ?_
  refine lv_iconst (v := 2) hx hb dL_law_780 (by decide) ?_
  refine lv_iadd hx hb dL_law_781 ?_
  refine x_sld S hX hbl hbA hW (hin 2 (by decide)) (ez 2 (by decide)) dL_law_782 ?_
  have hW := WS.swap hW
  refine back2_i (rest := [.int r]) hW (run_V2 S hW (ct_X12_level l n G A2 τ _ (z 1) (z 2) h2) mi_X12_level lk_L_86 (eM_0 G A2 τ) rfl rfl rfl hl (Nat.le_of_ble_eq_true rfl) dL_law_783 ⟨Nat.le_of_ble_eq_true rfl, Nat.le_of_ble_eq_true rfl⟩ rfl rfl hcs) (fun H locs hW => ?_)
  have hW := WS.swap hW
  refine lv_icmp_eq (tgt := 1416) hx hb dL_law_786 (by decide) (fun _ => ?_) (fun q => absurd rfl q)
  exact kk σ1 τ1 H locs hR hW
def ag_first (n : Nat) (R : SC → SC → Prop) : Prop := ∀ (σ τ : SC) (a1 : Int32) (a2 : Int32), R σ τ → ∃ (r : Int32) (σ1 : SC) (τ1 : SC), f_X11_first n σ a1 a2 = some (r, σ1) ∧ f_X12_first n τ a1 a2 = some (r, τ1) ∧ R σ1 τ1
set_option maxRecDepth 100000 in
set_option maxHeartbeats 4000000 in
theorem lc_first {p : Program} {l : Launch} {e : Env} {s : State} {m : MethodId} {args : Array Value} {below : List Frame} {meth : Method} {c : Code} {H : Heap} {locs : List Loc} {cells slots : Nat} {Q : State → Prop} {ls : Array Slot} {G : EN} {A : Nat → Prop} {A1 A2 : Nat → Nat} {σ τ : SC} {n bs L : Nat} {xs : Nat → Int32} {i3 : Int32} {R : SC → SC → Prop} (S : CallFix p m c code 4 s args GW RL) (hX : va_X bs L xs s s.heap) (hbl : bs < s.heap.size) (hbA : ¬ A bs) (z : Nat → Int32) (hin : ∀ t, t < 6 → vp_in (i3 + nI t) L) (ez : ∀ t, t < 6 → xs (i3 + nI t).toNatClampNeg = z t) (hcs : cells ≤ room_1.cells ∧ slots ≤ room_1.slots) (ag : ag_first n R) (hR : R σ τ) (hW : WS G A s (wC G A1 σ ++ wM G A2 τ) H locs) (hl : lv_has ls 4 [(0, .ref bs), (1, .ref (A1 0)), (2, .ref (A2 0)), (3, .int i3)])
    (kk : ∀ (σ1 τ1 : SC) (H1 : Heap) (locs1 : List Loc), R σ1 τ1 → WS G A s (wC G A1 σ1 ++ wM G A2 τ1) H1 locs1 → W p l e room_1 s m args below meth c H1 locs1 cells slots Q (F0 m 1416 ls [])) : W p l e room_1 s m args below meth c H locs cells slots Q (F0 m 791 ls []) := by
  have hx := S.1
  have hb := S.2.1
  refine lv_aload_n hx hb dL_law_791 rfl (lv_at hl 1 rfl) ?_
  refine lv_aload_n hx hb dL_law_792 rfl (lv_at hl 0 rfl) ?_
  refine lv_iload_n hx hb dL_law_793 rfl (lv_at hl 3 rfl) ?_
  refine lv_iconst (v := 1) hx hb dL_law_794 (by decide) ?_
  refine lv_iadd hx hb dL_law_795 ?_
  refine x_sld S hX hbl hbA hW (hin 1 (by decide)) (ez 1 (by decide)) dL_law_796 ?_
  refine lv_aload_n hx hb dL_law_797 rfl (lv_at hl 0 rfl) ?_
  refine lv_iload_n hx hb dL_law_798 rfl (lv_at hl 3 rfl) ?_
  refine lv_iconst (v := 2) hx hb dL_law_799 (by decide) ?_
  refine lv_iadd hx hb dL_law_800 ?_
  refine x_sld S hX hbl hbA hW (hin 2 (by decide)) (ez 2 (by decide)) dL_law_801 ?_
  obtain ⟨r, σ1, τ1, h1, h2, hR⟩ := ag σ τ (z 1) (z 2) hR
  refine back2_i (rest := []) hW (run_V2 S hW (ct_X11_first l n G A1 σ _ (z 1) (z 2) h1) mi_X11_first lk_L_87 (eC_0 G A1 σ) rfl rfl rfl hl (Nat.le_of_ble_eq_true rfl) dL_law_802 ⟨Nat.le_of_ble_eq_true rfl, Nat.le_of_ble_eq_true rfl⟩ rfl rfl hcs) (fun H locs hW => ?_)
  refine lv_aload_n hx hb dL_law_805 rfl (lv_at hl 2 rfl) ?_
  refine lv_aload_n hx hb dL_law_806 rfl (lv_at hl 0 rfl) ?_
  refine lv_iload_n hx hb dL_law_807 rfl (lv_at hl 3 rfl) ?_
  refine lv_iconst (v := 1) hx hb dL_law_808 (by decide) ?_
  refine lv_iadd hx hb dL_law_809 ?_
  refine x_sld S hX hbl hbA hW (hin 1 (by decide)) (ez 1 (by decide)) dL_law_810 ?_
  refine lv_aload_n hx hb dL_law_811 rfl (lv_at hl 0 rfl) ?_
  refine lv_iload_n hx hb dL_law_812 rfl (lv_at hl 3 rfl) ?_
  refine lv_iconst (v := 2) hx hb dL_law_813 (by decide) ?_
  refine lv_iadd hx hb dL_law_814 ?_
  refine x_sld S hX hbl hbA hW (hin 2 (by decide)) (ez 2 (by decide)) dL_law_815 ?_
  have hW := WS.swap hW
  refine back2_i (rest := [.int r]) hW (run_V2 S hW (ct_X12_first l n G A2 τ _ (z 1) (z 2) h2) mi_X12_first lk_L_90 (eM_0 G A2 τ) rfl rfl rfl hl (Nat.le_of_ble_eq_true rfl) dL_law_816 ⟨Nat.le_of_ble_eq_true rfl, Nat.le_of_ble_eq_true rfl⟩ rfl rfl hcs) (fun H locs hW => ?_)
  have hW := WS.swap hW
  refine lv_icmp_eq (tgt := 1416) hx hb dL_law_819 (by decide) (fun _ => ?_) (fun q => absurd rfl q)
  exact kk σ1 τ1 H locs hR hW
def ag_firstOf (n : Nat) (R : SC → SC → Prop) : Prop := ∀ (σ τ : SC) (a1 : Int32) (a2 : Int32), R σ τ → ∃ (r : Int32) (σ1 : SC) (τ1 : SC), f_X11_firstOf n σ a1 a2 = some (r, σ1) ∧ f_X12_firstOf n τ a1 a2 = some (r, τ1) ∧ R σ1 τ1
set_option maxRecDepth 100000 in
set_option maxHeartbeats 4000000 in
theorem lc_firstOf {p : Program} {l : Launch} {e : Env} {s : State} {m : MethodId} {args : Array Value} {below : List Frame} {meth : Method} {c : Code} {H : Heap} {locs : List Loc} {cells slots : Nat} {Q : State → Prop} {ls : Array Slot} {G : EN} {A : Nat → Prop} {A1 A2 : Nat → Nat} {σ τ : SC} {n bs L : Nat} {xs : Nat → Int32} {i3 : Int32} {R : SC → SC → Prop} (S : CallFix p m c code 4 s args GW RL) (hX : va_X bs L xs s s.heap) (hbl : bs < s.heap.size) (hbA : ¬ A bs) (z : Nat → Int32) (hin : ∀ t, t < 6 → vp_in (i3 + nI t) L) (ez : ∀ t, t < 6 → xs (i3 + nI t).toNatClampNeg = z t) (hcs : cells ≤ room_1.cells ∧ slots ≤ room_1.slots) (ag : ag_firstOf n R) (hR : R σ τ) (hW : WS G A s (wC G A1 σ ++ wM G A2 τ) H locs) (hl : lv_has ls 4 [(0, .ref bs), (1, .ref (A1 0)), (2, .ref (A2 0)), (3, .int i3)])
    (kk : ∀ (σ1 τ1 : SC) (H1 : Heap) (locs1 : List Loc), R σ1 τ1 → WS G A s (wC G A1 σ1 ++ wM G A2 τ1) H1 locs1 → W p l e room_1 s m args below meth c H1 locs1 cells slots Q (F0 m 1416 ls [])) : W p l e room_1 s m args below meth c H locs cells slots Q (F0 m 824 ls []) := by
  have hx := S.1
  have hb := S.2.1
  refine lv_aload_n hx hb dL_law_824 rfl (lv_at hl 1 rfl) ?_
  refine lv_aload_n hx hb dL_law_825 rfl (lv_at hl 0 rfl) ?_
  refine lv_iload_n hx hb dL_law_826 rfl (lv_at hl 3 rfl) ?_
  refine lv_iconst (v := 1) hx hb dL_law_827 (by decide) ?_
  refine lv_iadd hx hb dL_law_828 ?_
  refine x_sld S hX hbl hbA hW (hin 1 (by decide)) (ez 1 (by decide)) dL_law_829 ?_
  refine lv_aload_n hx hb dL_law_830 rfl (lv_at hl 0 rfl) ?_
  refine lv_iload_n hx hb dL_law_831 rfl (lv_at hl 3 rfl) ?_
  refine lv_iconst (v := 2) hx hb dL_law_832 (by decide) ?_
  refine lv_iadd hx hb dL_law_833 ?_
  refine x_sld S hX hbl hbA hW (hin 2 (by decide)) (ez 2 (by decide)) dL_law_834 ?_
  obtain ⟨r, σ1, τ1, h1, h2, hR⟩ := ag σ τ (z 1) (z 2) hR
  refine back2_i (rest := []) hW (run_V2 S hW (ct_X11_firstOf l n G A1 σ _ (z 1) (z 2) h1) mi_X11_firstOf lk_L_91 (eC_0 G A1 σ) rfl rfl rfl hl (Nat.le_of_ble_eq_true rfl) dL_law_835 ⟨Nat.le_of_ble_eq_true rfl, Nat.le_of_ble_eq_true rfl⟩ rfl rfl hcs) (fun H locs hW => ?_)
  refine lv_aload_n hx hb dL_law_838 rfl (lv_at hl 2 rfl) ?_
  refine lv_aload_n hx hb dL_law_839 rfl (lv_at hl 0 rfl) ?_
  refine lv_iload_n hx hb dL_law_840 rfl (lv_at hl 3 rfl) ?_
  refine lv_iconst (v := 1) hx hb dL_law_841 (by decide) ?_
  refine lv_iadd hx hb dL_law_842 ?_
  refine x_sld S hX hbl hbA hW (hin 1 (by decide)) (ez 1 (by decide)) dL_law_843 ?_
  refine lv_aload_n hx hb dL_law_844 rfl (lv_at hl 0 rfl) ?_
  refine lv_iload_n hx hb dL_law_845 rfl (lv_at hl 3 rfl) ?_
  refine lv_iconst (v := 2) hx hb dL_law_846 (by decide) ?_
  refine lv_iadd hx hb dL_law_847 ?_
  refine x_sld S hX hbl hbA hW (hin 2 (by decide)) (ez 2 (by decide)) dL_law_848 ?_
  have hW := WS.swap hW
  refine back2_i (rest := [.int r]) hW (run_V2 S hW (ct_X12_firstOf l n G A2 τ _ (z 1) (z 2) h2) mi_X12_firstOf lk_L_94 (eM_0 G A2 τ) rfl rfl rfl hl (Nat.le_of_ble_eq_true rfl) dL_law_849 ⟨Nat.le_of_ble_eq_true rfl, Nat.le_of_ble_eq_true rfl⟩ rfl rfl hcs) (fun H locs hW => ?_)
  have hW := WS.swap hW
  refine lv_icmp_eq (tgt := 1416) hx hb dL_law_852 (by decide) (fun _ => ?_) (fun q => absurd rfl q)
  exact kk σ1 τ1 H locs hR hW
def ag_guess (n : Nat) (R : SC → SC → Prop) : Prop := ∀ (σ τ : SC) (a1 : Int32) (a2 : Int32), R σ τ → ∃ (r : Int32) (σ1 : SC) (τ1 : SC), f_X11_guess n σ a1 a2 = some (r, σ1) ∧ f_X12_guess n τ a1 a2 = some (r, τ1) ∧ R σ1 τ1
set_option maxRecDepth 100000 in
set_option maxHeartbeats 4000000 in
theorem lc_guess {p : Program} {l : Launch} {e : Env} {s : State} {m : MethodId} {args : Array Value} {below : List Frame} {meth : Method} {c : Code} {H : Heap} {locs : List Loc} {cells slots : Nat} {Q : State → Prop} {ls : Array Slot} {G : EN} {A : Nat → Prop} {A1 A2 : Nat → Nat} {σ τ : SC} {n bs L : Nat} {xs : Nat → Int32} {i3 : Int32} {R : SC → SC → Prop} (S : CallFix p m c code 4 s args GW RL) (hX : va_X bs L xs s s.heap) (hbl : bs < s.heap.size) (hbA : ¬ A bs) (z : Nat → Int32) (hin : ∀ t, t < 6 → vp_in (i3 + nI t) L) (ez : ∀ t, t < 6 → xs (i3 + nI t).toNatClampNeg = z t) (hcs : cells ≤ room_1.cells ∧ slots ≤ room_1.slots) (ag : ag_guess n R) (hR : R σ τ) (hW : WS G A s (wC G A1 σ ++ wM G A2 τ) H locs) (hl : lv_has ls 4 [(0, .ref bs), (1, .ref (A1 0)), (2, .ref (A2 0)), (3, .int i3)])
    (kk : ∀ (σ1 τ1 : SC) (H1 : Heap) (locs1 : List Loc), R σ1 τ1 → WS G A s (wC G A1 σ1 ++ wM G A2 τ1) H1 locs1 → W p l e room_1 s m args below meth c H1 locs1 cells slots Q (F0 m 1416 ls [])) : W p l e room_1 s m args below meth c H locs cells slots Q (F0 m 857 ls []) := by
  have hx := S.1
  have hb := S.2.1
  refine lv_aload_n hx hb dL_law_857 rfl (lv_at hl 1 rfl) ?_
  refine lv_aload_n hx hb dL_law_858 rfl (lv_at hl 0 rfl) ?_
  refine lv_iload_n hx hb dL_law_859 rfl (lv_at hl 3 rfl) ?_
  refine lv_iconst (v := 1) hx hb dL_law_860 (by decide) ?_
  refine lv_iadd hx hb dL_law_861 ?_
  refine x_sld S hX hbl hbA hW (hin 1 (by decide)) (ez 1 (by decide)) dL_law_862 ?_
  refine lv_aload_n hx hb dL_law_863 rfl (lv_at hl 0 rfl) ?_
  refine lv_iload_n hx hb dL_law_864 rfl (lv_at hl 3 rfl) ?_
  refine lv_iconst (v := 2) hx hb dL_law_865 (by decide) ?_
  refine lv_iadd hx hb dL_law_866 ?_
  refine x_sld S hX hbl hbA hW (hin 2 (by decide)) (ez 2 (by decide)) dL_law_867 ?_
  obtain ⟨r, σ1, τ1, h1, h2, hR⟩ := ag σ τ (z 1) (z 2) hR
  refine back2_i (rest := []) hW (run_V2 S hW (ct_X11_guess l n G A1 σ _ (z 1) (z 2) h1) mi_X11_guess lk_L_95 (eC_0 G A1 σ) rfl rfl rfl hl (Nat.le_of_ble_eq_true rfl) dL_law_868 ⟨Nat.le_of_ble_eq_true rfl, Nat.le_of_ble_eq_true rfl⟩ rfl rfl hcs) (fun H locs hW => ?_)
  refine lv_aload_n hx hb dL_law_871 rfl (lv_at hl 2 rfl) ?_
  refine lv_aload_n hx hb dL_law_872 rfl (lv_at hl 0 rfl) ?_
  refine lv_iload_n hx hb dL_law_873 rfl (lv_at hl 3 rfl) ?_
  refine lv_iconst (v := 1) hx hb dL_law_874 (by decide) ?_
  refine lv_iadd hx hb dL_law_875 ?_
  refine x_sld S hX hbl hbA hW (hin 1 (by decide)) (ez 1 (by decide)) dL_law_876 ?_
  refine lv_aload_n hx hb dL_law_877 rfl (lv_at hl 0 rfl) ?_
  refine lv_iload_n hx hb dL_law_878 rfl (lv_at hl 3 rfl) ?_
  refine lv_iconst (v := 2) hx hb dL_law_879 (by decide) ?_
  refine lv_iadd hx hb dL_law_880 ?_
  refine x_sld S hX hbl hbA hW (hin 2 (by decide)) (ez 2 (by decide)) dL_law_881 ?_
  have hW := WS.swap hW
  refine back2_i (rest := [.int r]) hW (run_V2 S hW (ct_X12_guess l n G A2 τ _ (z 1) (z 2) h2) mi_X12_guess lk_L_98 (eM_0 G A2 τ) rfl rfl rfl hl (Nat.le_of_ble_eq_true rfl) dL_law_882 ⟨Nat.le_of_ble_eq_true rfl, Nat.le_of_ble_eq_true rfl⟩ rfl rfl hcs) (fun H locs hW => ?_)
  have hW := WS.swap hW
  refine lv_icmp_eq (tgt := 1416) hx hb dL_law_885 (by decide) (fun _ => ?_) (fun q => absurd rfl q)
  exact kk σ1 τ1 H locs hR hW
def ag_relaxed (n : Nat) (R : SC → SC → Prop) : Prop := ∀ (σ τ : SC) (a1 : Int32), R σ τ → ∃ (r : Int32) (σ1 : SC) (τ1 : SC), f_X11_relaxed n σ a1 = some (r, σ1) ∧ f_X12_relaxed n τ a1 = some (r, τ1) ∧ R σ1 τ1
set_option maxRecDepth 100000 in
set_option maxHeartbeats 4000000 in
theorem lc_relaxed {p : Program} {l : Launch} {e : Env} {s : State} {m : MethodId} {args : Array Value} {below : List Frame} {meth : Method} {c : Code} {H : Heap} {locs : List Loc} {cells slots : Nat} {Q : State → Prop} {ls : Array Slot} {G : EN} {A : Nat → Prop} {A1 A2 : Nat → Nat} {σ τ : SC} {n bs L : Nat} {xs : Nat → Int32} {i3 : Int32} {R : SC → SC → Prop} (S : CallFix p m c code 4 s args GW RL) (hX : va_X bs L xs s s.heap) (hbl : bs < s.heap.size) (hbA : ¬ A bs) (z : Nat → Int32) (hin : ∀ t, t < 6 → vp_in (i3 + nI t) L) (ez : ∀ t, t < 6 → xs (i3 + nI t).toNatClampNeg = z t) (hcs : cells ≤ room_1.cells ∧ slots ≤ room_1.slots) (ag : ag_relaxed n R) (hR : R σ τ) (hW : WS G A s (wC G A1 σ ++ wM G A2 τ) H locs) (hl : lv_has ls 4 [(0, .ref bs), (1, .ref (A1 0)), (2, .ref (A2 0)), (3, .int i3)])
    (kk : ∀ (σ1 τ1 : SC) (H1 : Heap) (locs1 : List Loc), R σ1 τ1 → WS G A s (wC G A1 σ1 ++ wM G A2 τ1) H1 locs1 → W p l e room_1 s m args below meth c H1 locs1 cells slots Q (F0 m 1416 ls [])) : W p l e room_1 s m args below meth c H locs cells slots Q (F0 m 890 ls []) := by
  have hx := S.1
  have hb := S.2.1
  refine lv_aload_n hx hb dL_law_890 rfl (lv_at hl 1 rfl) ?_
  refine lv_aload_n hx hb dL_law_891 rfl (lv_at hl 0 rfl) ?_
  refine lv_iload_n hx hb dL_law_892 rfl (lv_at hl 3 rfl) ?_
  refine lv_iconst (v := 1) hx hb dL_law_893 (by decide) ?_
  refine lv_iadd hx hb dL_law_894 ?_
  refine x_sld S hX hbl hbA hW (hin 1 (by decide)) (ez 1 (by decide)) dL_law_895 ?_
  obtain ⟨r, σ1, τ1, h1, h2, hR⟩ := ag σ τ (z 1) hR
  refine back2_i (rest := []) hW (run_V2 S hW (ct_X11_relaxed l n G A1 σ _ (z 1) h1) mi_X11_relaxed lk_L_99 (eC_0 G A1 σ) rfl rfl rfl hl (Nat.le_of_ble_eq_true rfl) dL_law_896 ⟨Nat.le_of_ble_eq_true rfl, Nat.le_of_ble_eq_true rfl⟩ rfl rfl hcs) (fun H locs hW => ?_)
  refine lv_aload_n hx hb dL_law_899 rfl (lv_at hl 2 rfl) ?_
  refine lv_aload_n hx hb dL_law_900 rfl (lv_at hl 0 rfl) ?_
  refine lv_iload_n hx hb dL_law_901 rfl (lv_at hl 3 rfl) ?_
  refine lv_iconst (v := 1) hx hb dL_law_902 (by decide) ?_
  refine lv_iadd hx hb dL_law_903 ?_
  refine x_sld S hX hbl hbA hW (hin 1 (by decide)) (ez 1 (by decide)) dL_law_904 ?_
  have hW := WS.swap hW
  refine back2_i (rest := [.int r]) hW (run_V2 S hW (ct_X12_relaxed l n G A2 τ _ (z 1) h2) mi_X12_relaxed lk_L_102 (eM_0 G A2 τ) rfl rfl rfl hl (Nat.le_of_ble_eq_true rfl) dL_law_905 ⟨Nat.le_of_ble_eq_true rfl, Nat.le_of_ble_eq_true rfl⟩ rfl rfl hcs) (fun H locs hW => ?_)
  have hW := WS.swap hW
  refine lv_icmp_eq (tgt := 1416) hx hb dL_law_908 (by decide) (fun _ => ?_) (fun q => absurd rfl q)
  exact kk σ1 τ1 H locs hR hW
def ag_helpful (n : Nat) (R : SC → SC → Prop) : Prop := ∀ (σ τ : SC) (a1 : Int32), R σ τ → ∃ (r : Int32) (σ1 : SC) (τ1 : SC), f_X11_helpful n σ a1 = some (r, σ1) ∧ f_X12_helpful n τ a1 = some (r, τ1) ∧ R σ1 τ1
set_option maxRecDepth 100000 in
set_option maxHeartbeats 4000000 in
theorem lc_helpful {p : Program} {l : Launch} {e : Env} {s : State} {m : MethodId} {args : Array Value} {below : List Frame} {meth : Method} {c : Code} {H : Heap} {locs : List Loc} {cells slots : Nat} {Q : State → Prop} {ls : Array Slot} {G : EN} {A : Nat → Prop} {A1 A2 : Nat → Nat} {σ τ : SC} {n bs L : Nat} {xs : Nat → Int32} {i3 : Int32} {R : SC → SC → Prop} (S : CallFix p m c code 4 s args GW RL) (hX : va_X bs L xs s s.heap) (hbl : bs < s.heap.size) (hbA : ¬ A bs) (z : Nat → Int32) (hin : ∀ t, t < 6 → vp_in (i3 + nI t) L) (ez : ∀ t, t < 6 → xs (i3 + nI t).toNatClampNeg = z t) (hcs : cells ≤ room_1.cells ∧ slots ≤ room_1.slots) (ag : ag_helpful n R) (hR : R σ τ) (hW : WS G A s (wC G A1 σ ++ wM G A2 τ) H locs) (hl : lv_has ls 4 [(0, .ref bs), (1, .ref (A1 0)), (2, .ref (A2 0)), (3, .int i3)])
    (kk : ∀ (σ1 τ1 : SC) (H1 : Heap) (locs1 : List Loc), R σ1 τ1 → WS G A s (wC G A1 σ1 ++ wM G A2 τ1) H1 locs1 → W p l e room_1 s m args below meth c H1 locs1 cells slots Q (F0 m 1416 ls [])) : W p l e room_1 s m args below meth c H locs cells slots Q (F0 m 913 ls []) := by
  have hx := S.1
  have hb := S.2.1
  refine lv_aload_n hx hb dL_law_913 rfl (lv_at hl 1 rfl) ?_
  refine lv_aload_n hx hb dL_law_914 rfl (lv_at hl 0 rfl) ?_
  refine lv_iload_n hx hb dL_law_915 rfl (lv_at hl 3 rfl) ?_
  refine lv_iconst (v := 1) hx hb dL_law_916 (by decide) ?_
  refine lv_iadd hx hb dL_law_917 ?_
  refine x_sld S hX hbl hbA hW (hin 1 (by decide)) (ez 1 (by decide)) dL_law_918 ?_
  obtain ⟨r, σ1, τ1, h1, h2, hR⟩ := ag σ τ (z 1) hR
  refine back2_i (rest := []) hW (run_V2 S hW (ct_X11_helpful l n G A1 σ _ (z 1) h1) mi_X11_helpful lk_L_103 (eC_0 G A1 σ) rfl rfl rfl hl (Nat.le_of_ble_eq_true rfl) dL_law_919 ⟨Nat.le_of_ble_eq_true rfl, Nat.le_of_ble_eq_true rfl⟩ rfl rfl hcs) (fun H locs hW => ?_)
  refine lv_aload_n hx hb dL_law_922 rfl (lv_at hl 2 rfl) ?_
  refine lv_aload_n hx hb dL_law_923 rfl (lv_at hl 0 rfl) ?_
  refine lv_iload_n hx hb dL_law_924 rfl (lv_at hl 3 rfl) ?_
  refine lv_iconst (v := 1) hx hb dL_law_925 (by decide) ?_
  refine lv_iadd hx hb dL_law_926 ?_
  refine x_sld S hX hbl hbA hW (hin 1 (by decide)) (ez 1 (by decide)) dL_law_927 ?_
  have hW := WS.swap hW
  refine back2_i (rest := [.int r]) hW (run_V2 S hW (ct_X12_helpful l n G A2 τ _ (z 1) h2) mi_X12_helpful lk_L_106 (eM_0 G A2 τ) rfl rfl rfl hl (Nat.le_of_ble_eq_true rfl) dL_law_928 ⟨Nat.le_of_ble_eq_true rfl, Nat.le_of_ble_eq_true rfl⟩ rfl rfl hcs) (fun H locs hW => ?_)
  have hW := WS.swap hW
  refine lv_icmp_eq (tgt := 1416) hx hb dL_law_931 (by decide) (fun _ => ?_) (fun q => absurd rfl q)
  exact kk σ1 τ1 H locs hR hW
def ag_landmarks (n : Nat) (R : SC → SC → Prop) : Prop := ∀ (σ τ : SC), R σ τ → ∃ (r : Int32) (σ1 : SC), f_X11_landmarks n σ = some (r, σ1) ∧ f_X12_landmarks n τ = some r ∧ R σ1 τ
set_option maxRecDepth 100000 in
set_option maxHeartbeats 4000000 in
theorem lc_landmarks {p : Program} {l : Launch} {e : Env} {s : State} {m : MethodId} {args : Array Value} {below : List Frame} {meth : Method} {c : Code} {H : Heap} {locs : List Loc} {cells slots : Nat} {Q : State → Prop} {ls : Array Slot} {G : EN} {A : Nat → Prop} {A1 A2 : Nat → Nat} {σ τ : SC} {n bs L : Nat} {xs : Nat → Int32} {i3 : Int32} {R : SC → SC → Prop} (S : CallFix p m c code 4 s args GW RL) (hX : va_X bs L xs s s.heap) (hbl : bs < s.heap.size) (hbA : ¬ A bs) (z : Nat → Int32) (hin : ∀ t, t < 6 → vp_in (i3 + nI t) L) (ez : ∀ t, t < 6 → xs (i3 + nI t).toNatClampNeg = z t) (hcs : cells ≤ room_1.cells ∧ slots ≤ room_1.slots) (ag : ag_landmarks n R) (hR : R σ τ) (hW : WS G A s (wC G A1 σ ++ wM G A2 τ) H locs) (hl : lv_has ls 4 [(0, .ref bs), (1, .ref (A1 0)), (2, .ref (A2 0)), (3, .int i3)])
    (kk : ∀ (σ1 τ1 : SC) (H1 : Heap) (locs1 : List Loc), R σ1 τ1 → WS G A s (wC G A1 σ1 ++ wM G A2 τ1) H1 locs1 → W p l e room_1 s m args below meth c H1 locs1 cells slots Q (F0 m 1416 ls [])) : W p l e room_1 s m args below meth c H locs cells slots Q (F0 m 936 ls []) := by
  have hx := S.1
  have hb := S.2.1
  refine lv_aload_n hx hb dL_law_936 rfl (lv_at hl 1 rfl) ?_
  obtain ⟨r, σ1, h1, h2, hR⟩ := ag σ τ  hR
  refine back2_i (rest := []) hW (run_V2 S hW (ct_X11_landmarks l n G A1 σ _  h1) mi_X11_landmarks lk_L_107 (eC_0 G A1 σ) rfl rfl rfl hl (Nat.le_of_ble_eq_true rfl) dL_law_937 ⟨Nat.le_of_ble_eq_true rfl, Nat.le_of_ble_eq_true rfl⟩ rfl rfl hcs) (fun H locs hW => ?_)
  refine lv_aload_n hx hb dL_law_940 rfl (lv_at hl 2 rfl) ?_
  have hW := WS.swap hW
  refine back2_i (rest := [.int r]) hW (run_V2 S hW (ct_X12_landmarks l n G A2 τ _  h2) mi_X12_landmarks lk_L_110 (eM_0 G A2 τ) rfl rfl rfl hl (Nat.le_of_ble_eq_true rfl) dL_law_941 ⟨Nat.le_of_ble_eq_true rfl, Nat.le_of_ble_eq_true rfl⟩ rfl rfl hcs) (fun H locs hW => ?_)
  have hW := WS.swap hW
  refine lv_icmp_eq (tgt := 1416) hx hb dL_law_944 (by decide) (fun _ => ?_) (fun q => absurd rfl q)
  exact kk σ1 τ H locs hR hW
def ag_isAhead (n : Nat) (R : SC → SC → Prop) : Prop := ∀ (σ τ : SC) (a1 : Int32) (a2 : Int32), R σ τ → ∃ (r : Int32) (σ1 : SC) (τ1 : SC), f_X11_isAhead n σ a1 a2 = some (r, σ1) ∧ f_X12_isAhead n τ a1 a2 = some (r, τ1) ∧ R σ1 τ1
set_option maxRecDepth 100000 in
set_option maxHeartbeats 4000000 in
theorem lc_isAhead {p : Program} {l : Launch} {e : Env} {s : State} {m : MethodId} {args : Array Value} {below : List Frame} {meth : Method} {c : Code} {H : Heap} {locs : List Loc} {cells slots : Nat} {Q : State → Prop} {ls : Array Slot} {G : EN} {A : Nat → Prop} {A1 A2 : Nat → Nat} {σ τ : SC} {n bs L : Nat} {xs : Nat → Int32} {i3 : Int32} {R : SC → SC → Prop} (S : CallFix p m c code 4 s args GW RL) (hX : va_X bs L xs s s.heap) (hbl : bs < s.heap.size) (hbA : ¬ A bs) (z : Nat → Int32) (hin : ∀ t, t < 6 → vp_in (i3 + nI t) L) (ez : ∀ t, t < 6 → xs (i3 + nI t).toNatClampNeg = z t) (hcs : cells ≤ room_1.cells ∧ slots ≤ room_1.slots) (ag : ag_isAhead n R) (hR : R σ τ) (hW : WS G A s (wC G A1 σ ++ wM G A2 τ) H locs) (hl : lv_has ls 4 [(0, .ref bs), (1, .ref (A1 0)), (2, .ref (A2 0)), (3, .int i3)])
    (kk : ∀ (σ1 τ1 : SC) (H1 : Heap) (locs1 : List Loc), R σ1 τ1 → WS G A s (wC G A1 σ1 ++ wM G A2 τ1) H1 locs1 → W p l e room_1 s m args below meth c H1 locs1 cells slots Q (F0 m 1416 ls [])) : W p l e room_1 s m args below meth c H locs cells slots Q (F0 m 949 ls []) := by
  have hx := S.1
  have hb := S.2.1
  refine lv_aload_n hx hb dL_law_949 rfl (lv_at hl 1 rfl) ?_
  refine lv_aload_n hx hb dL_law_950 rfl (lv_at hl 0 rfl) ?_
  refine lv_iload_n hx hb dL_law_951 rfl (lv_at hl 3 rfl) ?_
  refine lv_iconst (v := 1) hx hb dL_law_952 (by decide) ?_
  refine lv_iadd hx hb dL_law_953 ?_
  refine x_sld S hX hbl hbA hW (hin 1 (by decide)) (ez 1 (by decide)) dL_law_954 ?_
  refine lv_aload_n hx hb dL_law_955 rfl (lv_at hl 0 rfl) ?_
  refine lv_iload_n hx hb dL_law_956 rfl (lv_at hl 3 rfl) ?_
  refine lv_iconst (v := 2) hx hb dL_law_957 (by decide) ?_
  refine lv_iadd hx hb dL_law_958 ?_
  refine x_sld S hX hbl hbA hW (hin 2 (by decide)) (ez 2 (by decide)) dL_law_959 ?_
  obtain ⟨r, σ1, τ1, h1, h2, hR⟩ := ag σ τ (z 1) (z 2) hR
  refine back2_i (rest := []) hW (run_V2 S hW (ct_X11_isAhead l n G A1 σ _ (z 1) (z 2) h1) mi_X11_isAhead lk_L_111 (eC_0 G A1 σ) rfl rfl rfl hl (Nat.le_of_ble_eq_true rfl) dL_law_960 ⟨Nat.le_of_ble_eq_true rfl, Nat.le_of_ble_eq_true rfl⟩ rfl rfl hcs) (fun H locs hW => ?_)
  refine lv_aload_n hx hb dL_law_963 rfl (lv_at hl 2 rfl) ?_
  refine lv_aload_n hx hb dL_law_964 rfl (lv_at hl 0 rfl) ?_
  refine lv_iload_n hx hb dL_law_965 rfl (lv_at hl 3 rfl) ?_
  refine lv_iconst (v := 1) hx hb dL_law_966 (by decide) ?_
  refine lv_iadd hx hb dL_law_967 ?_
  refine x_sld S hX hbl hbA hW (hin 1 (by decide)) (ez 1 (by decide)) dL_law_968 ?_
  refine lv_aload_n hx hb dL_law_969 rfl (lv_at hl 0 rfl) ?_
  refine lv_iload_n hx hb dL_law_970 rfl (lv_at hl 3 rfl) ?_
  refine lv_iconst (v := 2) hx hb dL_law_971 (by decide) ?_
  refine lv_iadd hx hb dL_law_972 ?_
  refine x_sld S hX hbl hbA hW (hin 2 (by decide)) (ez 2 (by decide)) dL_law_973 ?_
  have hW := WS.swap hW
  refine back2_i (rest := [.int r]) hW (run_V2 S hW (ct_X12_isAhead l n G A2 τ _ (z 1) (z 2) h2) mi_X12_isAhead lk_L_114 (eM_0 G A2 τ) rfl rfl rfl hl (Nat.le_of_ble_eq_true rfl) dL_law_974 ⟨Nat.le_of_ble_eq_true rfl, Nat.le_of_ble_eq_true rfl⟩ rfl rfl hcs) (fun H locs hW => ?_)
  have hW := WS.swap hW
  refine lv_icmp_eq (tgt := 1416) hx hb dL_law_977 (by decide) (fun _ => ?_) (fun q => absurd rfl q)
  exact kk σ1 τ1 H locs hR hW
def ag_reached (n : Nat) (R : SC → SC → Prop) : Prop := ∀ (σ τ : SC), R σ τ → ∃ (r : Int32) (σ1 : SC) (τ1 : SC), f_X11_reached n σ = some (r, σ1) ∧ f_X12_reached n τ = some (r, τ1) ∧ R σ1 τ1
set_option maxRecDepth 100000 in
set_option maxHeartbeats 4000000 in
theorem lc_reached {p : Program} {l : Launch} {e : Env} {s : State} {m : MethodId} {args : Array Value} {below : List Frame} {meth : Method} {c : Code} {H : Heap} {locs : List Loc} {cells slots : Nat} {Q : State → Prop} {ls : Array Slot} {G : EN} {A : Nat → Prop} {A1 A2 : Nat → Nat} {σ τ : SC} {n bs L : Nat} {xs : Nat → Int32} {i3 : Int32} {R : SC → SC → Prop} (S : CallFix p m c code 4 s args GW RL) (hX : va_X bs L xs s s.heap) (hbl : bs < s.heap.size) (hbA : ¬ A bs) (z : Nat → Int32) (hin : ∀ t, t < 6 → vp_in (i3 + nI t) L) (ez : ∀ t, t < 6 → xs (i3 + nI t).toNatClampNeg = z t) (hcs : cells ≤ room_1.cells ∧ slots ≤ room_1.slots) (ag : ag_reached n R) (hR : R σ τ) (hW : WS G A s (wC G A1 σ ++ wM G A2 τ) H locs) (hl : lv_has ls 4 [(0, .ref bs), (1, .ref (A1 0)), (2, .ref (A2 0)), (3, .int i3)])
    (kk : ∀ (σ1 τ1 : SC) (H1 : Heap) (locs1 : List Loc), R σ1 τ1 → WS G A s (wC G A1 σ1 ++ wM G A2 τ1) H1 locs1 → W p l e room_1 s m args below meth c H1 locs1 cells slots Q (F0 m 1416 ls [])) : W p l e room_1 s m args below meth c H locs cells slots Q (F0 m 982 ls []) := by
  have hx := S.1
  have hb := S.2.1
  refine lv_aload_n hx hb dL_law_982 rfl (lv_at hl 1 rfl) ?_
  obtain ⟨r, σ1, τ1, h1, h2, hR⟩ := ag σ τ  hR
  refine back2_i (rest := []) hW (run_V2 S hW (ct_X11_reached l n G A1 σ _  h1) mi_X11_reached lk_L_115 (eC_0 G A1 σ) rfl rfl rfl hl (Nat.le_of_ble_eq_true rfl) dL_law_983 ⟨Nat.le_of_ble_eq_true rfl, Nat.le_of_ble_eq_true rfl⟩ rfl rfl hcs) (fun H locs hW => ?_)
  refine lv_aload_n hx hb dL_law_986 rfl (lv_at hl 2 rfl) ?_
  have hW := WS.swap hW
  refine back2_i (rest := [.int r]) hW (run_V2 S hW (ct_X12_reached l n G A2 τ _  h2) mi_X12_reached lk_L_118 (eM_0 G A2 τ) rfl rfl rfl hl (Nat.le_of_ble_eq_true rfl) dL_law_987 ⟨Nat.le_of_ble_eq_true rfl, Nat.le_of_ble_eq_true rfl⟩ rfl rfl hcs) (fun H locs hW => ?_)
  have hW := WS.swap hW
  refine lv_icmp_eq (tgt := 1416) hx hb dL_law_990 (by decide) (fun _ => ?_) (fun q => absurd rfl q)
  exact kk σ1 τ1 H locs hR hW
def ag_state (n : Nat) (R : SC → SC → Prop) : Prop := ∀ (σ τ : SC) (a1 : Int32), R σ τ → ∃ (r : Int32) (σ1 : SC) (τ1 : SC), f_X11_state n σ a1 = some (r, σ1) ∧ f_X12_state n τ a1 = some (r, τ1) ∧ R σ1 τ1
set_option maxRecDepth 100000 in
set_option maxHeartbeats 4000000 in
theorem lc_state {p : Program} {l : Launch} {e : Env} {s : State} {m : MethodId} {args : Array Value} {below : List Frame} {meth : Method} {c : Code} {H : Heap} {locs : List Loc} {cells slots : Nat} {Q : State → Prop} {ls : Array Slot} {G : EN} {A : Nat → Prop} {A1 A2 : Nat → Nat} {σ τ : SC} {n bs L : Nat} {xs : Nat → Int32} {i3 : Int32} {R : SC → SC → Prop} (S : CallFix p m c code 4 s args GW RL) (hX : va_X bs L xs s s.heap) (hbl : bs < s.heap.size) (hbA : ¬ A bs) (z : Nat → Int32) (hin : ∀ t, t < 6 → vp_in (i3 + nI t) L) (ez : ∀ t, t < 6 → xs (i3 + nI t).toNatClampNeg = z t) (hcs : cells ≤ room_1.cells ∧ slots ≤ room_1.slots) (ag : ag_state n R) (hR : R σ τ) (hW : WS G A s (wC G A1 σ ++ wM G A2 τ) H locs) (hl : lv_has ls 4 [(0, .ref bs), (1, .ref (A1 0)), (2, .ref (A2 0)), (3, .int i3)])
    (kk : ∀ (σ1 τ1 : SC) (H1 : Heap) (locs1 : List Loc), R σ1 τ1 → WS G A s (wC G A1 σ1 ++ wM G A2 τ1) H1 locs1 → W p l e room_1 s m args below meth c H1 locs1 cells slots Q (F0 m 1416 ls [])) : W p l e room_1 s m args below meth c H locs cells slots Q (F0 m 995 ls []) := by
  have hx := S.1
  have hb := S.2.1
  refine lv_aload_n hx hb dL_law_995 rfl (lv_at hl 1 rfl) ?_
  refine lv_aload_n hx hb dL_law_996 rfl (lv_at hl 0 rfl) ?_
  refine lv_iload_n hx hb dL_law_997 rfl (lv_at hl 3 rfl) ?_
  refine lv_iconst (v := 1) hx hb dL_law_998 (by decide) ?_
  refine lv_iadd hx hb dL_law_999 ?_
  refine x_sld S hX hbl hbA hW (hin 1 (by decide)) (ez 1 (by decide)) dL_law_1000 ?_
  obtain ⟨r, σ1, τ1, h1, h2, hR⟩ := ag σ τ (z 1) hR
  refine back2_i (rest := []) hW (run_V2 S hW (ct_X11_state l n G A1 σ _ (z 1) h1) mi_X11_state lk_L_119 (eC_0 G A1 σ) rfl rfl rfl hl (Nat.le_of_ble_eq_true rfl) dL_law_1001 ⟨Nat.le_of_ble_eq_true rfl, Nat.le_of_ble_eq_true rfl⟩ rfl rfl hcs) (fun H locs hW => ?_)
  refine lv_aload_n hx hb dL_law_1004 rfl (lv_at hl 2 rfl) ?_
  refine lv_aload_n hx hb dL_law_1005 rfl (lv_at hl 0 rfl) ?_
  refine lv_iload_n hx hb dL_law_1006 rfl (lv_at hl 3 rfl) ?_
  refine lv_iconst (v := 1) hx hb dL_law_1007 (by decide) ?_
  refine lv_iadd hx hb dL_law_1008 ?_
  refine x_sld S hX hbl hbA hW (hin 1 (by decide)) (ez 1 (by decide)) dL_law_1009 ?_
  have hW := WS.swap hW
  refine back2_i (rest := [.int r]) hW (run_V2 S hW (ct_X12_state l n G A2 τ _ (z 1) h2) mi_X12_state lk_L_122 (eM_0 G A2 τ) rfl rfl rfl hl (Nat.le_of_ble_eq_true rfl) dL_law_1010 ⟨Nat.le_of_ble_eq_true rfl, Nat.le_of_ble_eq_true rfl⟩ rfl rfl hcs) (fun H locs hW => ?_)
  have hW := WS.swap hW
  refine lv_icmp_eq (tgt := 1416) hx hb dL_law_1013 (by decide) (fun _ => ?_) (fun q => absurd rfl q)
  exact kk σ1 τ1 H locs hR hW
def ag_far (n : Nat) (R : SC → SC → Prop) : Prop := ∀ (σ τ : SC) (a1 : Int32), R σ τ → ∃ (r : Int32) (σ1 : SC) (τ1 : SC), f_X11_far n σ a1 = some (r, σ1) ∧ f_X12_far n τ a1 = some (r, τ1) ∧ R σ1 τ1
set_option maxRecDepth 100000 in
set_option maxHeartbeats 4000000 in
theorem lc_far {p : Program} {l : Launch} {e : Env} {s : State} {m : MethodId} {args : Array Value} {below : List Frame} {meth : Method} {c : Code} {H : Heap} {locs : List Loc} {cells slots : Nat} {Q : State → Prop} {ls : Array Slot} {G : EN} {A : Nat → Prop} {A1 A2 : Nat → Nat} {σ τ : SC} {n bs L : Nat} {xs : Nat → Int32} {i3 : Int32} {R : SC → SC → Prop} (S : CallFix p m c code 4 s args GW RL) (hX : va_X bs L xs s s.heap) (hbl : bs < s.heap.size) (hbA : ¬ A bs) (z : Nat → Int32) (hin : ∀ t, t < 6 → vp_in (i3 + nI t) L) (ez : ∀ t, t < 6 → xs (i3 + nI t).toNatClampNeg = z t) (hcs : cells ≤ room_1.cells ∧ slots ≤ room_1.slots) (ag : ag_far n R) (hR : R σ τ) (hW : WS G A s (wC G A1 σ ++ wM G A2 τ) H locs) (hl : lv_has ls 4 [(0, .ref bs), (1, .ref (A1 0)), (2, .ref (A2 0)), (3, .int i3)])
    (kk : ∀ (σ1 τ1 : SC) (H1 : Heap) (locs1 : List Loc), R σ1 τ1 → WS G A s (wC G A1 σ1 ++ wM G A2 τ1) H1 locs1 → W p l e room_1 s m args below meth c H1 locs1 cells slots Q (F0 m 1416 ls [])) : W p l e room_1 s m args below meth c H locs cells slots Q (F0 m 1018 ls []) := by
  have hx := S.1
  have hb := S.2.1
  refine lv_aload_n hx hb dL_law_1018 rfl (lv_at hl 1 rfl) ?_
  refine lv_aload_n hx hb dL_law_1019 rfl (lv_at hl 0 rfl) ?_
  refine lv_iload_n hx hb dL_law_1020 rfl (lv_at hl 3 rfl) ?_
  refine lv_iconst (v := 1) hx hb dL_law_1021 (by decide) ?_
  refine lv_iadd hx hb dL_law_1022 ?_
  refine x_sld S hX hbl hbA hW (hin 1 (by decide)) (ez 1 (by decide)) dL_law_1023 ?_
  obtain ⟨r, σ1, τ1, h1, h2, hR⟩ := ag σ τ (z 1) hR
  refine back2_i (rest := []) hW (run_V2 S hW (ct_X11_far l n G A1 σ _ (z 1) h1) mi_X11_far lk_L_123 (eC_0 G A1 σ) rfl rfl rfl hl (Nat.le_of_ble_eq_true rfl) dL_law_1024 ⟨Nat.le_of_ble_eq_true rfl, Nat.le_of_ble_eq_true rfl⟩ rfl rfl hcs) (fun H locs hW => ?_)
  refine lv_aload_n hx hb dL_law_1027 rfl (lv_at hl 2 rfl) ?_
  refine lv_aload_n hx hb dL_law_1028 rfl (lv_at hl 0 rfl) ?_
  refine lv_iload_n hx hb dL_law_1029 rfl (lv_at hl 3 rfl) ?_
  refine lv_iconst (v := 1) hx hb dL_law_1030 (by decide) ?_
  refine lv_iadd hx hb dL_law_1031 ?_
  refine x_sld S hX hbl hbA hW (hin 1 (by decide)) (ez 1 (by decide)) dL_law_1032 ?_
  have hW := WS.swap hW
  refine back2_i (rest := [.int r]) hW (run_V2 S hW (ct_X12_far l n G A2 τ _ (z 1) h2) mi_X12_far lk_L_126 (eM_0 G A2 τ) rfl rfl rfl hl (Nat.le_of_ble_eq_true rfl) dL_law_1033 ⟨Nat.le_of_ble_eq_true rfl, Nat.le_of_ble_eq_true rfl⟩ rfl rfl hcs) (fun H locs hW => ?_)
  have hW := WS.swap hW
  refine lv_icmp_eq (tgt := 1416) hx hb dL_law_1036 (by decide) (fun _ => ?_) (fun q => absurd rfl q)
  exact kk σ1 τ1 H locs hR hW
def ag_numberOf (n : Nat) (R : SC → SC → Prop) : Prop := ∀ (σ τ : SC) (a1 : Int32), R σ τ → ∃ (r : Int32) (σ1 : SC) (τ1 : SC), f_X11_numberOf n σ a1 = some (r, σ1) ∧ f_X12_numberOf n τ a1 = some (r, τ1) ∧ R σ1 τ1
set_option maxRecDepth 100000 in
set_option maxHeartbeats 4000000 in
theorem lc_numberOf {p : Program} {l : Launch} {e : Env} {s : State} {m : MethodId} {args : Array Value} {below : List Frame} {meth : Method} {c : Code} {H : Heap} {locs : List Loc} {cells slots : Nat} {Q : State → Prop} {ls : Array Slot} {G : EN} {A : Nat → Prop} {A1 A2 : Nat → Nat} {σ τ : SC} {n bs L : Nat} {xs : Nat → Int32} {i3 : Int32} {R : SC → SC → Prop} (S : CallFix p m c code 4 s args GW RL) (hX : va_X bs L xs s s.heap) (hbl : bs < s.heap.size) (hbA : ¬ A bs) (z : Nat → Int32) (hin : ∀ t, t < 6 → vp_in (i3 + nI t) L) (ez : ∀ t, t < 6 → xs (i3 + nI t).toNatClampNeg = z t) (hcs : cells ≤ room_1.cells ∧ slots ≤ room_1.slots) (ag : ag_numberOf n R) (hR : R σ τ) (hW : WS G A s (wC G A1 σ ++ wM G A2 τ) H locs) (hl : lv_has ls 4 [(0, .ref bs), (1, .ref (A1 0)), (2, .ref (A2 0)), (3, .int i3)])
    (kk : ∀ (σ1 τ1 : SC) (H1 : Heap) (locs1 : List Loc), R σ1 τ1 → WS G A s (wC G A1 σ1 ++ wM G A2 τ1) H1 locs1 → W p l e room_1 s m args below meth c H1 locs1 cells slots Q (F0 m 1416 ls [])) : W p l e room_1 s m args below meth c H locs cells slots Q (F0 m 1041 ls []) := by
  have hx := S.1
  have hb := S.2.1
  refine lv_aload_n hx hb dL_law_1041 rfl (lv_at hl 1 rfl) ?_
  refine lv_aload_n hx hb dL_law_1042 rfl (lv_at hl 0 rfl) ?_
  refine lv_iload_n hx hb dL_law_1043 rfl (lv_at hl 3 rfl) ?_
  refine lv_iconst (v := 1) hx hb dL_law_1044 (by decide) ?_
  refine lv_iadd hx hb dL_law_1045 ?_
  refine x_sld S hX hbl hbA hW (hin 1 (by decide)) (ez 1 (by decide)) dL_law_1046 ?_
  obtain ⟨r, σ1, τ1, h1, h2, hR⟩ := ag σ τ (z 1) hR
  refine back2_i (rest := []) hW (run_V2 S hW (ct_X11_numberOf l n G A1 σ _ (z 1) h1) mi_X11_numberOf lk_L_127 (eC_0 G A1 σ) rfl rfl rfl hl (Nat.le_of_ble_eq_true rfl) dL_law_1047 ⟨Nat.le_of_ble_eq_true rfl, Nat.le_of_ble_eq_true rfl⟩ rfl rfl hcs) (fun H locs hW => ?_)
  refine lv_aload_n hx hb dL_law_1050 rfl (lv_at hl 2 rfl) ?_
  refine lv_aload_n hx hb dL_law_1051 rfl (lv_at hl 0 rfl) ?_
  refine lv_iload_n hx hb dL_law_1052 rfl (lv_at hl 3 rfl) ?_
  refine lv_iconst (v := 1) hx hb dL_law_1053 (by decide) ?_
  refine lv_iadd hx hb dL_law_1054 ?_
  refine x_sld S hX hbl hbA hW (hin 1 (by decide)) (ez 1 (by decide)) dL_law_1055 ?_
  have hW := WS.swap hW
  refine back2_i (rest := [.int r]) hW (run_V2 S hW (ct_X12_numberOf l n G A2 τ _ (z 1) h2) mi_X12_numberOf lk_L_130 (eM_0 G A2 τ) rfl rfl rfl hl (Nat.le_of_ble_eq_true rfl) dL_law_1056 ⟨Nat.le_of_ble_eq_true rfl, Nat.le_of_ble_eq_true rfl⟩ rfl rfl hcs) (fun H locs hW => ?_)
  have hW := WS.swap hW
  refine lv_icmp_eq (tgt := 1416) hx hb dL_law_1059 (by decide) (fun _ => ?_) (fun q => absurd rfl q)
  exact kk σ1 τ1 H locs hR hW
def ag_excluded (n : Nat) (R : SC → SC → Prop) : Prop := ∀ (σ τ : SC) (a1 : Int32), R σ τ → ∃ (r : Int32) (σ1 : SC) (τ1 : SC), f_X11_excluded n σ a1 = some (r, σ1) ∧ f_X12_excluded n τ a1 = some (r, τ1) ∧ R σ1 τ1
set_option maxRecDepth 100000 in
set_option maxHeartbeats 4000000 in
theorem lc_excluded {p : Program} {l : Launch} {e : Env} {s : State} {m : MethodId} {args : Array Value} {below : List Frame} {meth : Method} {c : Code} {H : Heap} {locs : List Loc} {cells slots : Nat} {Q : State → Prop} {ls : Array Slot} {G : EN} {A : Nat → Prop} {A1 A2 : Nat → Nat} {σ τ : SC} {n bs L : Nat} {xs : Nat → Int32} {i3 : Int32} {R : SC → SC → Prop} (S : CallFix p m c code 4 s args GW RL) (hX : va_X bs L xs s s.heap) (hbl : bs < s.heap.size) (hbA : ¬ A bs) (z : Nat → Int32) (hin : ∀ t, t < 6 → vp_in (i3 + nI t) L) (ez : ∀ t, t < 6 → xs (i3 + nI t).toNatClampNeg = z t) (hcs : cells ≤ room_1.cells ∧ slots ≤ room_1.slots) (ag : ag_excluded n R) (hR : R σ τ) (hW : WS G A s (wC G A1 σ ++ wM G A2 τ) H locs) (hl : lv_has ls 4 [(0, .ref bs), (1, .ref (A1 0)), (2, .ref (A2 0)), (3, .int i3)])
    (kk : ∀ (σ1 τ1 : SC) (H1 : Heap) (locs1 : List Loc), R σ1 τ1 → WS G A s (wC G A1 σ1 ++ wM G A2 τ1) H1 locs1 → W p l e room_1 s m args below meth c H1 locs1 cells slots Q (F0 m 1416 ls [])) : W p l e room_1 s m args below meth c H locs cells slots Q (F0 m 1064 ls []) := by
  have hx := S.1
  have hb := S.2.1
  refine lv_aload_n hx hb dL_law_1064 rfl (lv_at hl 1 rfl) ?_
  refine lv_aload_n hx hb dL_law_1065 rfl (lv_at hl 0 rfl) ?_
  refine lv_iload_n hx hb dL_law_1066 rfl (lv_at hl 3 rfl) ?_
  refine lv_iconst (v := 1) hx hb dL_law_1067 (by decide) ?_
  refine lv_iadd hx hb dL_law_1068 ?_
  refine x_sld S hX hbl hbA hW (hin 1 (by decide)) (ez 1 (by decide)) dL_law_1069 ?_
  obtain ⟨r, σ1, τ1, h1, h2, hR⟩ := ag σ τ (z 1) hR
  refine back2_i (rest := []) hW (run_V2 S hW (ct_X11_excluded l n G A1 σ _ (z 1) h1) mi_X11_excluded lk_L_131 (eC_0 G A1 σ) rfl rfl rfl hl (Nat.le_of_ble_eq_true rfl) dL_law_1070 ⟨Nat.le_of_ble_eq_true rfl, Nat.le_of_ble_eq_true rfl⟩ rfl rfl hcs) (fun H locs hW => ?_)
  refine lv_aload_n hx hb dL_law_1073 rfl (lv_at hl 2 rfl) ?_
  refine lv_aload_n hx hb dL_law_1074 rfl (lv_at hl 0 rfl) ?_
  refine lv_iload_n hx hb dL_law_1075 rfl (lv_at hl 3 rfl) ?_
  refine lv_iconst (v := 1) hx hb dL_law_1076 (by decide) ?_
  refine lv_iadd hx hb dL_law_1077 ?_
  refine x_sld S hX hbl hbA hW (hin 1 (by decide)) (ez 1 (by decide)) dL_law_1078 ?_
  have hW := WS.swap hW
  refine back2_i (rest := [.int r]) hW (run_V2 S hW (ct_X12_excluded l n G A2 τ _ (z 1) h2) mi_X12_excluded lk_L_134 (eM_0 G A2 τ) rfl rfl rfl hl (Nat.le_of_ble_eq_true rfl) dL_law_1079 ⟨Nat.le_of_ble_eq_true rfl, Nat.le_of_ble_eq_true rfl⟩ rfl rfl hcs) (fun H locs hW => ?_)
  have hW := WS.swap hW
  refine lv_icmp_eq (tgt := 1416) hx hb dL_law_1082 (by decide) (fun _ => ?_) (fun q => absurd rfl q)
  exact kk σ1 τ1 H locs hR hW
def ag_best (n : Nat) (R : SC → SC → Prop) : Prop := ∀ (σ τ : SC) (a1 : Int32), R σ τ → ∃ (r : Int32) (σ1 : SC) (τ1 : SC), f_X11_best n σ a1 = some (r, σ1) ∧ f_X12_best n τ a1 = some (r, τ1) ∧ R σ1 τ1
set_option maxRecDepth 100000 in
set_option maxHeartbeats 4000000 in
theorem lc_best {p : Program} {l : Launch} {e : Env} {s : State} {m : MethodId} {args : Array Value} {below : List Frame} {meth : Method} {c : Code} {H : Heap} {locs : List Loc} {cells slots : Nat} {Q : State → Prop} {ls : Array Slot} {G : EN} {A : Nat → Prop} {A1 A2 : Nat → Nat} {σ τ : SC} {n bs L : Nat} {xs : Nat → Int32} {i3 : Int32} {R : SC → SC → Prop} (S : CallFix p m c code 4 s args GW RL) (hX : va_X bs L xs s s.heap) (hbl : bs < s.heap.size) (hbA : ¬ A bs) (z : Nat → Int32) (hin : ∀ t, t < 6 → vp_in (i3 + nI t) L) (ez : ∀ t, t < 6 → xs (i3 + nI t).toNatClampNeg = z t) (hcs : cells ≤ room_1.cells ∧ slots ≤ room_1.slots) (ag : ag_best n R) (hR : R σ τ) (hW : WS G A s (wC G A1 σ ++ wM G A2 τ) H locs) (hl : lv_has ls 4 [(0, .ref bs), (1, .ref (A1 0)), (2, .ref (A2 0)), (3, .int i3)])
    (kk : ∀ (σ1 τ1 : SC) (H1 : Heap) (locs1 : List Loc), R σ1 τ1 → WS G A s (wC G A1 σ1 ++ wM G A2 τ1) H1 locs1 → W p l e room_1 s m args below meth c H1 locs1 cells slots Q (F0 m 1416 ls [])) : W p l e room_1 s m args below meth c H locs cells slots Q (F0 m 1087 ls []) := by
  have hx := S.1
  have hb := S.2.1
  refine lv_aload_n hx hb dL_law_1087 rfl (lv_at hl 1 rfl) ?_
  refine lv_aload_n hx hb dL_law_1088 rfl (lv_at hl 0 rfl) ?_
  refine lv_iload_n hx hb dL_law_1089 rfl (lv_at hl 3 rfl) ?_
  refine lv_iconst (v := 1) hx hb dL_law_1090 (by decide) ?_
  refine lv_iadd hx hb dL_law_1091 ?_
  refine x_sld S hX hbl hbA hW (hin 1 (by decide)) (ez 1 (by decide)) dL_law_1092 ?_
  obtain ⟨r, σ1, τ1, h1, h2, hR⟩ := ag σ τ (z 1) hR
  refine back2_i (rest := []) hW (run_V2 S hW (ct_X11_best l n G A1 σ _ (z 1) h1) mi_X11_best lk_L_135 (eC_0 G A1 σ) rfl rfl rfl hl (Nat.le_of_ble_eq_true rfl) dL_law_1093 ⟨Nat.le_of_ble_eq_true rfl, Nat.le_of_ble_eq_true rfl⟩ rfl rfl hcs) (fun H locs hW => ?_)
  refine lv_aload_n hx hb dL_law_1096 rfl (lv_at hl 2 rfl) ?_
  refine lv_aload_n hx hb dL_law_1097 rfl (lv_at hl 0 rfl) ?_
  refine lv_iload_n hx hb dL_law_1098 rfl (lv_at hl 3 rfl) ?_
  refine lv_iconst (v := 1) hx hb dL_law_1099 (by decide) ?_
  refine lv_iadd hx hb dL_law_1100 ?_
  refine x_sld S hX hbl hbA hW (hin 1 (by decide)) (ez 1 (by decide)) dL_law_1101 ?_
  have hW := WS.swap hW
  refine back2_i (rest := [.int r]) hW (run_V2 S hW (ct_X12_best l n G A2 τ _ (z 1) h2) mi_X12_best lk_L_138 (eM_0 G A2 τ) rfl rfl rfl hl (Nat.le_of_ble_eq_true rfl) dL_law_1102 ⟨Nat.le_of_ble_eq_true rfl, Nat.le_of_ble_eq_true rfl⟩ rfl rfl hcs) (fun H locs hW => ?_)
  have hW := WS.swap hW
  refine lv_icmp_eq (tgt := 1416) hx hb dL_law_1105 (by decide) (fun _ => ?_) (fun q => absurd rfl q)
  exact kk σ1 τ1 H locs hR hW
def ag_bestAt (n : Nat) (R : SC → SC → Prop) : Prop := ∀ (σ τ : SC) (a1 : Int32), R σ τ → ∃ (r : Int32) (σ1 : SC) (τ1 : SC), f_X11_bestAt n σ a1 = some (r, σ1) ∧ f_X12_bestAt n τ a1 = some (r, τ1) ∧ R σ1 τ1
set_option maxRecDepth 100000 in
set_option maxHeartbeats 4000000 in
theorem lc_bestAt {p : Program} {l : Launch} {e : Env} {s : State} {m : MethodId} {args : Array Value} {below : List Frame} {meth : Method} {c : Code} {H : Heap} {locs : List Loc} {cells slots : Nat} {Q : State → Prop} {ls : Array Slot} {G : EN} {A : Nat → Prop} {A1 A2 : Nat → Nat} {σ τ : SC} {n bs L : Nat} {xs : Nat → Int32} {i3 : Int32} {R : SC → SC → Prop} (S : CallFix p m c code 4 s args GW RL) (hX : va_X bs L xs s s.heap) (hbl : bs < s.heap.size) (hbA : ¬ A bs) (z : Nat → Int32) (hin : ∀ t, t < 6 → vp_in (i3 + nI t) L) (ez : ∀ t, t < 6 → xs (i3 + nI t).toNatClampNeg = z t) (hcs : cells ≤ room_1.cells ∧ slots ≤ room_1.slots) (ag : ag_bestAt n R) (hR : R σ τ) (hW : WS G A s (wC G A1 σ ++ wM G A2 τ) H locs) (hl : lv_has ls 4 [(0, .ref bs), (1, .ref (A1 0)), (2, .ref (A2 0)), (3, .int i3)])
    (kk : ∀ (σ1 τ1 : SC) (H1 : Heap) (locs1 : List Loc), R σ1 τ1 → WS G A s (wC G A1 σ1 ++ wM G A2 τ1) H1 locs1 → W p l e room_1 s m args below meth c H1 locs1 cells slots Q (F0 m 1416 ls [])) : W p l e room_1 s m args below meth c H locs cells slots Q (F0 m 1110 ls []) := by
  have hx := S.1
  have hb := S.2.1
  refine lv_aload_n hx hb dL_law_1110 rfl (lv_at hl 1 rfl) ?_
  refine lv_aload_n hx hb dL_law_1111 rfl (lv_at hl 0 rfl) ?_
  refine lv_iload_n hx hb dL_law_1112 rfl (lv_at hl 3 rfl) ?_
  refine lv_iconst (v := 1) hx hb dL_law_1113 (by decide) ?_
  refine lv_iadd hx hb dL_law_1114 ?_
  refine x_sld S hX hbl hbA hW (hin 1 (by decide)) (ez 1 (by decide)) dL_law_1115 ?_
  obtain ⟨r, σ1, τ1, h1, h2, hR⟩ := ag σ τ (z 1) hR
  refine back2_i (rest := []) hW (run_V2 S hW (ct_X11_bestAt l n G A1 σ _ (z 1) h1) mi_X11_bestAt lk_L_139 (eC_0 G A1 σ) rfl rfl rfl hl (Nat.le_of_ble_eq_true rfl) dL_law_1116 ⟨Nat.le_of_ble_eq_true rfl, Nat.le_of_ble_eq_true rfl⟩ rfl rfl hcs) (fun H locs hW => ?_)
  refine lv_aload_n hx hb dL_law_1119 rfl (lv_at hl 2 rfl) ?_
  refine lv_aload_n hx hb dL_law_1120 rfl (lv_at hl 0 rfl) ?_
  refine lv_iload_n hx hb dL_law_1121 rfl (lv_at hl 3 rfl) ?_
  refine lv_iconst (v := 1) hx hb dL_law_1122 (by decide) ?_
  refine lv_iadd hx hb dL_law_1123 ?_
  refine x_sld S hX hbl hbA hW (hin 1 (by decide)) (ez 1 (by decide)) dL_law_1124 ?_
  have hW := WS.swap hW
  refine back2_i (rest := [.int r]) hW (run_V2 S hW (ct_X12_bestAt l n G A2 τ _ (z 1) h2) mi_X12_bestAt lk_L_142 (eM_0 G A2 τ) rfl rfl rfl hl (Nat.le_of_ble_eq_true rfl) dL_law_1125 ⟨Nat.le_of_ble_eq_true rfl, Nat.le_of_ble_eq_true rfl⟩ rfl rfl hcs) (fun H locs hW => ?_)
  have hW := WS.swap hW
  refine lv_icmp_eq (tgt := 1416) hx hb dL_law_1128 (by decide) (fun _ => ?_) (fun q => absurd rfl q)
  exact kk σ1 τ1 H locs hR hW
def ag_spell (n : Nat) (R : SC → SC → Prop) : Prop := ∀ (σ τ : SC) (a1 : Int32), R σ τ → ∃ (r : Int32) (σ1 : SC) (τ1 : SC), f_X11_spell n σ a1 = some (r, σ1) ∧ f_X12_spell n τ a1 = some (r, τ1) ∧ R σ1 τ1
set_option maxRecDepth 100000 in
set_option maxHeartbeats 4000000 in
theorem lc_spell {p : Program} {l : Launch} {e : Env} {s : State} {m : MethodId} {args : Array Value} {below : List Frame} {meth : Method} {c : Code} {H : Heap} {locs : List Loc} {cells slots : Nat} {Q : State → Prop} {ls : Array Slot} {G : EN} {A : Nat → Prop} {A1 A2 : Nat → Nat} {σ τ : SC} {n bs L : Nat} {xs : Nat → Int32} {i3 : Int32} {R : SC → SC → Prop} (S : CallFix p m c code 4 s args GW RL) (hX : va_X bs L xs s s.heap) (hbl : bs < s.heap.size) (hbA : ¬ A bs) (z : Nat → Int32) (hin : ∀ t, t < 6 → vp_in (i3 + nI t) L) (ez : ∀ t, t < 6 → xs (i3 + nI t).toNatClampNeg = z t) (hcs : cells ≤ room_1.cells ∧ slots ≤ room_1.slots) (ag : ag_spell n R) (hR : R σ τ) (hW : WS G A s (wC G A1 σ ++ wM G A2 τ) H locs) (hl : lv_has ls 4 [(0, .ref bs), (1, .ref (A1 0)), (2, .ref (A2 0)), (3, .int i3)])
    (kk : ∀ (σ1 τ1 : SC) (H1 : Heap) (locs1 : List Loc), R σ1 τ1 → WS G A s (wC G A1 σ1 ++ wM G A2 τ1) H1 locs1 → W p l e room_1 s m args below meth c H1 locs1 cells slots Q (F0 m 1416 ls [])) : W p l e room_1 s m args below meth c H locs cells slots Q (F0 m 1133 ls []) := by
  have hx := S.1
  have hb := S.2.1
  refine lv_aload_n hx hb dL_law_1133 rfl (lv_at hl 1 rfl) ?_
  refine lv_aload_n hx hb dL_law_1134 rfl (lv_at hl 0 rfl) ?_
  refine lv_iload_n hx hb dL_law_1135 rfl (lv_at hl 3 rfl) ?_
  refine lv_iconst (v := 1) hx hb dL_law_1136 (by decide) ?_
  refine lv_iadd hx hb dL_law_1137 ?_
  refine x_sld S hX hbl hbA hW (hin 1 (by decide)) (ez 1 (by decide)) dL_law_1138 ?_
  obtain ⟨r, σ1, τ1, h1, h2, hR⟩ := ag σ τ (z 1) hR
  refine back2_i (rest := []) hW (run_V2 S hW (ct_X11_spell l n G A1 σ _ (z 1) h1) mi_X11_spell lk_L_143 (eC_0 G A1 σ) rfl rfl rfl hl (Nat.le_of_ble_eq_true rfl) dL_law_1139 ⟨Nat.le_of_ble_eq_true rfl, Nat.le_of_ble_eq_true rfl⟩ rfl rfl hcs) (fun H locs hW => ?_)
  refine lv_aload_n hx hb dL_law_1142 rfl (lv_at hl 2 rfl) ?_
  refine lv_aload_n hx hb dL_law_1143 rfl (lv_at hl 0 rfl) ?_
  refine lv_iload_n hx hb dL_law_1144 rfl (lv_at hl 3 rfl) ?_
  refine lv_iconst (v := 1) hx hb dL_law_1145 (by decide) ?_
  refine lv_iadd hx hb dL_law_1146 ?_
  refine x_sld S hX hbl hbA hW (hin 1 (by decide)) (ez 1 (by decide)) dL_law_1147 ?_
  have hW := WS.swap hW
  refine back2_i (rest := [.int r]) hW (run_V2 S hW (ct_X12_spell l n G A2 τ _ (z 1) h2) mi_X12_spell lk_L_146 (eM_0 G A2 τ) rfl rfl rfl hl (Nat.le_of_ble_eq_true rfl) dL_law_1148 ⟨Nat.le_of_ble_eq_true rfl, Nat.le_of_ble_eq_true rfl⟩ rfl rfl hcs) (fun H locs hW => ?_)
  have hW := WS.swap hW
  refine lv_icmp_eq (tgt := 1416) hx hb dL_law_1151 (by decide) (fun _ => ?_) (fun q => absurd rfl q)
  exact kk σ1 τ1 H locs hR hW
def ag_judge (n : Nat) (R : SC → SC → Prop) : Prop := ∀ (σ τ : SC) (a1 : Int32) (a2 : Int32), R σ τ → ∃ (r : Int32) (σ1 : SC) (τ1 : SC), f_X11_judge n σ a1 a2 = some (r, σ1) ∧ f_X12_judge n τ a1 a2 = some (r, τ1) ∧ R σ1 τ1
set_option maxRecDepth 100000 in
set_option maxHeartbeats 4000000 in
theorem lc_judge {p : Program} {l : Launch} {e : Env} {s : State} {m : MethodId} {args : Array Value} {below : List Frame} {meth : Method} {c : Code} {H : Heap} {locs : List Loc} {cells slots : Nat} {Q : State → Prop} {ls : Array Slot} {G : EN} {A : Nat → Prop} {A1 A2 : Nat → Nat} {σ τ : SC} {n bs L : Nat} {xs : Nat → Int32} {i3 : Int32} {R : SC → SC → Prop} (S : CallFix p m c code 4 s args GW RL) (hX : va_X bs L xs s s.heap) (hbl : bs < s.heap.size) (hbA : ¬ A bs) (z : Nat → Int32) (hin : ∀ t, t < 6 → vp_in (i3 + nI t) L) (ez : ∀ t, t < 6 → xs (i3 + nI t).toNatClampNeg = z t) (hcs : cells ≤ room_1.cells ∧ slots ≤ room_1.slots) (ag : ag_judge n R) (hR : R σ τ) (hW : WS G A s (wC G A1 σ ++ wM G A2 τ) H locs) (hl : lv_has ls 4 [(0, .ref bs), (1, .ref (A1 0)), (2, .ref (A2 0)), (3, .int i3)])
    (kk : ∀ (σ1 τ1 : SC) (H1 : Heap) (locs1 : List Loc), R σ1 τ1 → WS G A s (wC G A1 σ1 ++ wM G A2 τ1) H1 locs1 → W p l e room_1 s m args below meth c H1 locs1 cells slots Q (F0 m 1416 ls [])) : W p l e room_1 s m args below meth c H locs cells slots Q (F0 m 1156 ls []) := by
  have hx := S.1
  have hb := S.2.1
  refine lv_aload_n hx hb dL_law_1156 rfl (lv_at hl 1 rfl) ?_
  refine lv_aload_n hx hb dL_law_1157 rfl (lv_at hl 0 rfl) ?_
  refine lv_iload_n hx hb dL_law_1158 rfl (lv_at hl 3 rfl) ?_
  refine lv_iconst (v := 1) hx hb dL_law_1159 (by decide) ?_
  refine lv_iadd hx hb dL_law_1160 ?_
  refine x_sld S hX hbl hbA hW (hin 1 (by decide)) (ez 1 (by decide)) dL_law_1161 ?_
  refine lv_aload_n hx hb dL_law_1162 rfl (lv_at hl 0 rfl) ?_
  refine lv_iload_n hx hb dL_law_1163 rfl (lv_at hl 3 rfl) ?_
  refine lv_iconst (v := 2) hx hb dL_law_1164 (by decide) ?_
  refine lv_iadd hx hb dL_law_1165 ?_
  refine x_sld S hX hbl hbA hW (hin 2 (by decide)) (ez 2 (by decide)) dL_law_1166 ?_
  obtain ⟨r, σ1, τ1, h1, h2, hR⟩ := ag σ τ (z 1) (z 2) hR
  refine back2_i (rest := []) hW (run_V2 S hW (ct_X11_judge l n G A1 σ _ (z 1) (z 2) h1) mi_X11_judge lk_L_147 (eC_0 G A1 σ) rfl rfl rfl hl (Nat.le_of_ble_eq_true rfl) dL_law_1167 ⟨Nat.le_of_ble_eq_true rfl, Nat.le_of_ble_eq_true rfl⟩ rfl rfl hcs) (fun H locs hW => ?_)
  refine lv_aload_n hx hb dL_law_1170 rfl (lv_at hl 2 rfl) ?_
  refine lv_aload_n hx hb dL_law_1171 rfl (lv_at hl 0 rfl) ?_
  refine lv_iload_n hx hb dL_law_1172 rfl (lv_at hl 3 rfl) ?_
  refine lv_iconst (v := 1) hx hb dL_law_1173 (by decide) ?_
  refine lv_iadd hx hb dL_law_1174 ?_
  refine x_sld S hX hbl hbA hW (hin 1 (by decide)) (ez 1 (by decide)) dL_law_1175 ?_
  refine lv_aload_n hx hb dL_law_1176 rfl (lv_at hl 0 rfl) ?_
  refine lv_iload_n hx hb dL_law_1177 rfl (lv_at hl 3 rfl) ?_
  refine lv_iconst (v := 2) hx hb dL_law_1178 (by decide) ?_
  refine lv_iadd hx hb dL_law_1179 ?_
  refine x_sld S hX hbl hbA hW (hin 2 (by decide)) (ez 2 (by decide)) dL_law_1180 ?_
  have hW := WS.swap hW
  refine back2_i (rest := [.int r]) hW (run_V2 S hW (ct_X12_judge l n G A2 τ _ (z 1) (z 2) h2) mi_X12_judge lk_L_150 (eM_0 G A2 τ) rfl rfl rfl hl (Nat.le_of_ble_eq_true rfl) dL_law_1181 ⟨Nat.le_of_ble_eq_true rfl, Nat.le_of_ble_eq_true rfl⟩ rfl rfl hcs) (fun H locs hW => ?_)
  have hW := WS.swap hW
  refine lv_icmp_eq (tgt := 1416) hx hb dL_law_1184 (by decide) (fun _ => ?_) (fun q => absurd rfl q)
  exact kk σ1 τ1 H locs hR hW
def ag_behind (n : Nat) (R : SC → SC → Prop) : Prop := ∀ (σ τ : SC) (a1 : Int32) (a2 : Int32) (a3 : Int32), R σ τ → ∃ (r : Int32) (σ1 : SC) (τ1 : SC), f_X11_behind n σ a1 a2 a3 = some (r, σ1) ∧ f_X12_behind n τ a1 a2 a3 = some (r, τ1) ∧ R σ1 τ1
set_option maxRecDepth 100000 in
set_option maxHeartbeats 4000000 in
theorem lc_behind {p : Program} {l : Launch} {e : Env} {s : State} {m : MethodId} {args : Array Value} {below : List Frame} {meth : Method} {c : Code} {H : Heap} {locs : List Loc} {cells slots : Nat} {Q : State → Prop} {ls : Array Slot} {G : EN} {A : Nat → Prop} {A1 A2 : Nat → Nat} {σ τ : SC} {n bs L : Nat} {xs : Nat → Int32} {i3 : Int32} {R : SC → SC → Prop} (S : CallFix p m c code 4 s args GW RL) (hX : va_X bs L xs s s.heap) (hbl : bs < s.heap.size) (hbA : ¬ A bs) (z : Nat → Int32) (hin : ∀ t, t < 6 → vp_in (i3 + nI t) L) (ez : ∀ t, t < 6 → xs (i3 + nI t).toNatClampNeg = z t) (hcs : cells ≤ room_1.cells ∧ slots ≤ room_1.slots) (ag : ag_behind n R) (hR : R σ τ) (hW : WS G A s (wC G A1 σ ++ wM G A2 τ) H locs) (hl : lv_has ls 4 [(0, .ref bs), (1, .ref (A1 0)), (2, .ref (A2 0)), (3, .int i3)])
    (kk : ∀ (σ1 τ1 : SC) (H1 : Heap) (locs1 : List Loc), R σ1 τ1 → WS G A s (wC G A1 σ1 ++ wM G A2 τ1) H1 locs1 → W p l e room_1 s m args below meth c H1 locs1 cells slots Q (F0 m 1416 ls [])) : W p l e room_1 s m args below meth c H locs cells slots Q (F0 m 1189 ls []) := by
  have hx := S.1
  have hb := S.2.1
  refine lv_aload_n hx hb dL_law_1189 rfl (lv_at hl 1 rfl) ?_
  refine lv_aload_n hx hb dL_law_1190 rfl (lv_at hl 0 rfl) ?_
  refine lv_iload_n hx hb dL_law_1191 rfl (lv_at hl 3 rfl) ?_
  refine lv_iconst (v := 1) hx hb dL_law_1192 (by decide) ?_
  refine lv_iadd hx hb dL_law_1193 ?_
  refine x_sld S hX hbl hbA hW (hin 1 (by decide)) (ez 1 (by decide)) dL_law_1194 ?_
  refine lv_aload_n hx hb dL_law_1195 rfl (lv_at hl 0 rfl) ?_
  refine lv_iload_n hx hb dL_law_1196 rfl (lv_at hl 3 rfl) ?_
  refine lv_iconst (v := 2) hx hb dL_law_1197 (by decide) ?_
  refine lv_iadd hx hb dL_law_1198 ?_
  refine x_sld S hX hbl hbA hW (hin 2 (by decide)) (ez 2 (by decide)) dL_law_1199 ?_
  refine lv_aload_n hx hb dL_law_1200 rfl (lv_at hl 0 rfl) ?_
  refine lv_iload_n hx hb dL_law_1201 rfl (lv_at hl 3 rfl) ?_
  refine lv_iconst (v := 3) hx hb dL_law_1202 (by decide) ?_
  refine lv_iadd hx hb dL_law_1203 ?_
  refine x_sld S hX hbl hbA hW (hin 3 (by decide)) (ez 3 (by decide)) dL_law_1204 ?_
  obtain ⟨r, σ1, τ1, h1, h2, hR⟩ := ag σ τ (z 1) (z 2) (z 3) hR
  refine back2_i (rest := []) hW (run_V2 S hW (ct_X11_behind l n G A1 σ _ (z 1) (z 2) (z 3) h1) mi_X11_behind lk_L_151 (eC_0 G A1 σ) rfl rfl rfl hl (Nat.le_of_ble_eq_true rfl) dL_law_1205 ⟨Nat.le_of_ble_eq_true rfl, Nat.le_of_ble_eq_true rfl⟩ rfl rfl hcs) (fun H locs hW => ?_)
  refine lv_aload_n hx hb dL_law_1208 rfl (lv_at hl 2 rfl) ?_
  refine lv_aload_n hx hb dL_law_1209 rfl (lv_at hl 0 rfl) ?_
  refine lv_iload_n hx hb dL_law_1210 rfl (lv_at hl 3 rfl) ?_
  refine lv_iconst (v := 1) hx hb dL_law_1211 (by decide) ?_
  refine lv_iadd hx hb dL_law_1212 ?_
  refine x_sld S hX hbl hbA hW (hin 1 (by decide)) (ez 1 (by decide)) dL_law_1213 ?_
  refine lv_aload_n hx hb dL_law_1214 rfl (lv_at hl 0 rfl) ?_
  refine lv_iload_n hx hb dL_law_1215 rfl (lv_at hl 3 rfl) ?_
  refine lv_iconst (v := 2) hx hb dL_law_1216 (by decide) ?_
  refine lv_iadd hx hb dL_law_1217 ?_
  refine x_sld S hX hbl hbA hW (hin 2 (by decide)) (ez 2 (by decide)) dL_law_1218 ?_
  refine lv_aload_n hx hb dL_law_1219 rfl (lv_at hl 0 rfl) ?_
  refine lv_iload_n hx hb dL_law_1220 rfl (lv_at hl 3 rfl) ?_
  refine lv_iconst (v := 3) hx hb dL_law_1221 (by decide) ?_
  refine lv_iadd hx hb dL_law_1222 ?_
  refine x_sld S hX hbl hbA hW (hin 3 (by decide)) (ez 3 (by decide)) dL_law_1223 ?_
  have hW := WS.swap hW
  refine back2_i (rest := [.int r]) hW (run_V2 S hW (ct_X12_behind l n G A2 τ _ (z 1) (z 2) (z 3) h2) mi_X12_behind lk_L_154 (eM_0 G A2 τ) rfl rfl rfl hl (Nat.le_of_ble_eq_true rfl) dL_law_1224 ⟨Nat.le_of_ble_eq_true rfl, Nat.le_of_ble_eq_true rfl⟩ rfl rfl hcs) (fun H locs hW => ?_)
  have hW := WS.swap hW
  refine lv_icmp_eq (tgt := 1416) hx hb dL_law_1227 (by decide) (fun _ => ?_) (fun q => absurd rfl q)
  exact kk σ1 τ1 H locs hR hW
def ag_mostPair (n : Nat) (R : SC → SC → Prop) : Prop := ∀ (σ τ : SC) (a1 : Int32) (a2 : Int32), R σ τ → ∃ (r : Int32) (σ1 : SC) (τ1 : SC), f_X11_mostPair n σ a1 a2 = some (r, σ1) ∧ f_X12_mostPair n τ a1 a2 = some (r, τ1) ∧ R σ1 τ1
set_option maxRecDepth 100000 in
set_option maxHeartbeats 4000000 in
theorem lc_mostPair {p : Program} {l : Launch} {e : Env} {s : State} {m : MethodId} {args : Array Value} {below : List Frame} {meth : Method} {c : Code} {H : Heap} {locs : List Loc} {cells slots : Nat} {Q : State → Prop} {ls : Array Slot} {G : EN} {A : Nat → Prop} {A1 A2 : Nat → Nat} {σ τ : SC} {n bs L : Nat} {xs : Nat → Int32} {i3 : Int32} {R : SC → SC → Prop} (S : CallFix p m c code 4 s args GW RL) (hX : va_X bs L xs s s.heap) (hbl : bs < s.heap.size) (hbA : ¬ A bs) (z : Nat → Int32) (hin : ∀ t, t < 6 → vp_in (i3 + nI t) L) (ez : ∀ t, t < 6 → xs (i3 + nI t).toNatClampNeg = z t) (hcs : cells ≤ room_1.cells ∧ slots ≤ room_1.slots) (ag : ag_mostPair n R) (hR : R σ τ) (hW : WS G A s (wC G A1 σ ++ wM G A2 τ) H locs) (hl : lv_has ls 4 [(0, .ref bs), (1, .ref (A1 0)), (2, .ref (A2 0)), (3, .int i3)])
    (kk : ∀ (σ1 τ1 : SC) (H1 : Heap) (locs1 : List Loc), R σ1 τ1 → WS G A s (wC G A1 σ1 ++ wM G A2 τ1) H1 locs1 → W p l e room_1 s m args below meth c H1 locs1 cells slots Q (F0 m 1416 ls [])) : W p l e room_1 s m args below meth c H locs cells slots Q (F0 m 1232 ls []) := by
  have hx := S.1
  have hb := S.2.1
  refine lv_aload_n hx hb dL_law_1232 rfl (lv_at hl 1 rfl) ?_
  refine lv_aload_n hx hb dL_law_1233 rfl (lv_at hl 0 rfl) ?_
  refine lv_iload_n hx hb dL_law_1234 rfl (lv_at hl 3 rfl) ?_
  refine lv_iconst (v := 1) hx hb dL_law_1235 (by decide) ?_
  refine lv_iadd hx hb dL_law_1236 ?_
  refine x_sld S hX hbl hbA hW (hin 1 (by decide)) (ez 1 (by decide)) dL_law_1237 ?_
  refine lv_aload_n hx hb dL_law_1238 rfl (lv_at hl 0 rfl) ?_
  refine lv_iload_n hx hb dL_law_1239 rfl (lv_at hl 3 rfl) ?_
  refine lv_iconst (v := 2) hx hb dL_law_1240 (by decide) ?_
  refine lv_iadd hx hb dL_law_1241 ?_
  refine x_sld S hX hbl hbA hW (hin 2 (by decide)) (ez 2 (by decide)) dL_law_1242 ?_
  obtain ⟨r, σ1, τ1, h1, h2, hR⟩ := ag σ τ (z 1) (z 2) hR
  refine back2_i (rest := []) hW (run_V2 S hW (ct_X11_mostPair l n G A1 σ _ (z 1) (z 2) h1) mi_X11_mostPair lk_L_155 (eC_0 G A1 σ) rfl rfl rfl hl (Nat.le_of_ble_eq_true rfl) dL_law_1243 ⟨Nat.le_of_ble_eq_true rfl, Nat.le_of_ble_eq_true rfl⟩ rfl rfl hcs) (fun H locs hW => ?_)
  refine lv_aload_n hx hb dL_law_1246 rfl (lv_at hl 2 rfl) ?_
  refine lv_aload_n hx hb dL_law_1247 rfl (lv_at hl 0 rfl) ?_
  refine lv_iload_n hx hb dL_law_1248 rfl (lv_at hl 3 rfl) ?_
  refine lv_iconst (v := 1) hx hb dL_law_1249 (by decide) ?_
  refine lv_iadd hx hb dL_law_1250 ?_
  refine x_sld S hX hbl hbA hW (hin 1 (by decide)) (ez 1 (by decide)) dL_law_1251 ?_
  refine lv_aload_n hx hb dL_law_1252 rfl (lv_at hl 0 rfl) ?_
  refine lv_iload_n hx hb dL_law_1253 rfl (lv_at hl 3 rfl) ?_
  refine lv_iconst (v := 2) hx hb dL_law_1254 (by decide) ?_
  refine lv_iadd hx hb dL_law_1255 ?_
  refine x_sld S hX hbl hbA hW (hin 2 (by decide)) (ez 2 (by decide)) dL_law_1256 ?_
  have hW := WS.swap hW
  refine back2_i (rest := [.int r]) hW (run_V2 S hW (ct_X12_mostPair l n G A2 τ _ (z 1) (z 2) h2) mi_X12_mostPair lk_L_158 (eM_0 G A2 τ) rfl rfl rfl hl (Nat.le_of_ble_eq_true rfl) dL_law_1257 ⟨Nat.le_of_ble_eq_true rfl, Nat.le_of_ble_eq_true rfl⟩ rfl rfl hcs) (fun H locs hW => ?_)
  have hW := WS.swap hW
  refine lv_icmp_eq (tgt := 1416) hx hb dL_law_1260 (by decide) (fun _ => ?_) (fun q => absurd rfl q)
  exact kk σ1 τ1 H locs hR hW
def ag_greedy (n : Nat) (R : SC → SC → Prop) : Prop := ∀ (σ τ : SC) (a1 : Int32) (a2 : Int32), R σ τ → ∃ (r : Int32) (σ1 : SC) (τ1 : SC), f_X11_greedy n σ a1 a2 = some (r, σ1) ∧ f_X12_greedy n τ a1 a2 = some (r, τ1) ∧ R σ1 τ1
set_option maxRecDepth 100000 in
set_option maxHeartbeats 4000000 in
theorem lc_greedy {p : Program} {l : Launch} {e : Env} {s : State} {m : MethodId} {args : Array Value} {below : List Frame} {meth : Method} {c : Code} {H : Heap} {locs : List Loc} {cells slots : Nat} {Q : State → Prop} {ls : Array Slot} {G : EN} {A : Nat → Prop} {A1 A2 : Nat → Nat} {σ τ : SC} {n bs L : Nat} {xs : Nat → Int32} {i3 : Int32} {R : SC → SC → Prop} (S : CallFix p m c code 4 s args GW RL) (hX : va_X bs L xs s s.heap) (hbl : bs < s.heap.size) (hbA : ¬ A bs) (z : Nat → Int32) (hin : ∀ t, t < 6 → vp_in (i3 + nI t) L) (ez : ∀ t, t < 6 → xs (i3 + nI t).toNatClampNeg = z t) (hcs : cells ≤ room_1.cells ∧ slots ≤ room_1.slots) (ag : ag_greedy n R) (hR : R σ τ) (hW : WS G A s (wC G A1 σ ++ wM G A2 τ) H locs) (hl : lv_has ls 4 [(0, .ref bs), (1, .ref (A1 0)), (2, .ref (A2 0)), (3, .int i3)])
    (kk : ∀ (σ1 τ1 : SC) (H1 : Heap) (locs1 : List Loc), R σ1 τ1 → WS G A s (wC G A1 σ1 ++ wM G A2 τ1) H1 locs1 → W p l e room_1 s m args below meth c H1 locs1 cells slots Q (F0 m 1416 ls [])) : W p l e room_1 s m args below meth c H locs cells slots Q (F0 m 1265 ls []) := by
  have hx := S.1
  have hb := S.2.1
  refine lv_aload_n hx hb dL_law_1265 rfl (lv_at hl 1 rfl) ?_
  refine lv_aload_n hx hb dL_law_1266 rfl (lv_at hl 0 rfl) ?_
  refine lv_iload_n hx hb dL_law_1267 rfl (lv_at hl 3 rfl) ?_
  refine lv_iconst (v := 1) hx hb dL_law_1268 (by decide) ?_
  refine lv_iadd hx hb dL_law_1269 ?_
  refine x_sld S hX hbl hbA hW (hin 1 (by decide)) (ez 1 (by decide)) dL_law_1270 ?_
  refine lv_aload_n hx hb dL_law_1271 rfl (lv_at hl 0 rfl) ?_
  refine lv_iload_n hx hb dL_law_1272 rfl (lv_at hl 3 rfl) ?_
  refine lv_iconst (v := 2) hx hb dL_law_1273 (by decide) ?_
  refine lv_iadd hx hb dL_law_1274 ?_
  refine x_sld S hX hbl hbA hW (hin 2 (by decide)) (ez 2 (by decide)) dL_law_1275 ?_
  obtain ⟨r, σ1, τ1, h1, h2, hR⟩ := ag σ τ (z 1) (z 2) hR
  refine back2_i (rest := []) hW (run_V2 S hW (ct_X11_greedy l n G A1 σ _ (z 1) (z 2) h1) mi_X11_greedy lk_L_159 (eC_0 G A1 σ) rfl rfl rfl hl (Nat.le_of_ble_eq_true rfl) dL_law_1276 ⟨Nat.le_of_ble_eq_true rfl, Nat.le_of_ble_eq_true rfl⟩ rfl rfl hcs) (fun H locs hW => ?_)
  refine lv_aload_n hx hb dL_law_1279 rfl (lv_at hl 2 rfl) ?_
  refine lv_aload_n hx hb dL_law_1280 rfl (lv_at hl 0 rfl) ?_
  refine lv_iload_n hx hb dL_law_1281 rfl (lv_at hl 3 rfl) ?_
  refine lv_iconst (v := 1) hx hb dL_law_1282 (by decide) ?_
  refine lv_iadd hx hb dL_law_1283 ?_
  refine x_sld S hX hbl hbA hW (hin 1 (by decide)) (ez 1 (by decide)) dL_law_1284 ?_
  refine lv_aload_n hx hb dL_law_1285 rfl (lv_at hl 0 rfl) ?_
  refine lv_iload_n hx hb dL_law_1286 rfl (lv_at hl 3 rfl) ?_
  refine lv_iconst (v := 2) hx hb dL_law_1287 (by decide) ?_
  refine lv_iadd hx hb dL_law_1288 ?_
  refine x_sld S hX hbl hbA hW (hin 2 (by decide)) (ez 2 (by decide)) dL_law_1289 ?_
  have hW := WS.swap hW
  refine back2_i (rest := [.int r]) hW (run_V2 S hW (ct_X12_greedy l n G A2 τ _ (z 1) (z 2) h2) mi_X12_greedy lk_L_162 (eM_0 G A2 τ) rfl rfl rfl hl (Nat.le_of_ble_eq_true rfl) dL_law_1290 ⟨Nat.le_of_ble_eq_true rfl, Nat.le_of_ble_eq_true rfl⟩ rfl rfl hcs) (fun H locs hW => ?_)
  have hW := WS.swap hW
  refine lv_icmp_eq (tgt := 1416) hx hb dL_law_1293 (by decide) (fun _ => ?_) (fun q => absurd rfl q)
  exact kk σ1 τ1 H locs hR hW
def ag_walk (n : Nat) (R : SC → SC → Prop) : Prop := ∀ (σ τ : SC) (a1 : Int32), R σ τ → ∃ (r : Int32) (σ1 : SC) (τ1 : SC), f_X11_walk n σ a1 = some (r, σ1) ∧ f_X12_walk n τ a1 = some (r, τ1) ∧ R σ1 τ1
set_option maxRecDepth 100000 in
set_option maxHeartbeats 4000000 in
theorem lc_walk {p : Program} {l : Launch} {e : Env} {s : State} {m : MethodId} {args : Array Value} {below : List Frame} {meth : Method} {c : Code} {H : Heap} {locs : List Loc} {cells slots : Nat} {Q : State → Prop} {ls : Array Slot} {G : EN} {A : Nat → Prop} {A1 A2 : Nat → Nat} {σ τ : SC} {n bs L : Nat} {xs : Nat → Int32} {i3 : Int32} {R : SC → SC → Prop} (S : CallFix p m c code 4 s args GW RL) (hX : va_X bs L xs s s.heap) (hbl : bs < s.heap.size) (hbA : ¬ A bs) (z : Nat → Int32) (hin : ∀ t, t < 6 → vp_in (i3 + nI t) L) (ez : ∀ t, t < 6 → xs (i3 + nI t).toNatClampNeg = z t) (hcs : cells ≤ room_1.cells ∧ slots ≤ room_1.slots) (ag : ag_walk n R) (hR : R σ τ) (hW : WS G A s (wC G A1 σ ++ wM G A2 τ) H locs) (hl : lv_has ls 4 [(0, .ref bs), (1, .ref (A1 0)), (2, .ref (A2 0)), (3, .int i3)])
    (kk : ∀ (σ1 τ1 : SC) (H1 : Heap) (locs1 : List Loc), R σ1 τ1 → WS G A s (wC G A1 σ1 ++ wM G A2 τ1) H1 locs1 → W p l e room_1 s m args below meth c H1 locs1 cells slots Q (F0 m 1416 ls [])) : W p l e room_1 s m args below meth c H locs cells slots Q (F0 m 1298 ls []) := by
  have hx := S.1
  have hb := S.2.1
  refine lv_aload_n hx hb dL_law_1298 rfl (lv_at hl 1 rfl) ?_
  refine lv_aload_n hx hb dL_law_1299 rfl (lv_at hl 0 rfl) ?_
  refine lv_iload_n hx hb dL_law_1300 rfl (lv_at hl 3 rfl) ?_
  refine lv_iconst (v := 1) hx hb dL_law_1301 (by decide) ?_
  refine lv_iadd hx hb dL_law_1302 ?_
  refine x_sld S hX hbl hbA hW (hin 1 (by decide)) (ez 1 (by decide)) dL_law_1303 ?_
  obtain ⟨r, σ1, τ1, h1, h2, hR⟩ := ag σ τ (z 1) hR
  refine back2_i (rest := []) hW (run_V2 S hW (ct_X11_walk l n G A1 σ _ (z 1) h1) mi_X11_walk lk_L_163 (eC_0 G A1 σ) rfl rfl rfl hl (Nat.le_of_ble_eq_true rfl) dL_law_1304 ⟨Nat.le_of_ble_eq_true rfl, Nat.le_of_ble_eq_true rfl⟩ rfl rfl hcs) (fun H locs hW => ?_)
  refine lv_aload_n hx hb dL_law_1307 rfl (lv_at hl 2 rfl) ?_
  refine lv_aload_n hx hb dL_law_1308 rfl (lv_at hl 0 rfl) ?_
  refine lv_iload_n hx hb dL_law_1309 rfl (lv_at hl 3 rfl) ?_
  refine lv_iconst (v := 1) hx hb dL_law_1310 (by decide) ?_
  refine lv_iadd hx hb dL_law_1311 ?_
  refine x_sld S hX hbl hbA hW (hin 1 (by decide)) (ez 1 (by decide)) dL_law_1312 ?_
  have hW := WS.swap hW
  refine back2_i (rest := [.int r]) hW (run_V2 S hW (ct_X12_walk l n G A2 τ _ (z 1) h2) mi_X12_walk lk_L_166 (eM_0 G A2 τ) rfl rfl rfl hl (Nat.le_of_ble_eq_true rfl) dL_law_1313 ⟨Nat.le_of_ble_eq_true rfl, Nat.le_of_ble_eq_true rfl⟩ rfl rfl hcs) (fun H locs hW => ?_)
  have hW := WS.swap hW
  refine lv_icmp_eq (tgt := 1416) hx hb dL_law_1316 (by decide) (fun _ => ?_) (fun q => absurd rfl q)
  exact kk σ1 τ1 H locs hR hW
def ag_seed (n : Nat) (R : SC → SC → Prop) : Prop := ∀ (σ τ : SC) (a1 : Int32), R σ τ → ∃ (r : Int32) (σ1 : SC) (τ1 : SC), f_X11_seed σ a1 = some (r, σ1) ∧ f_X12_seed τ a1 = some (r, τ1) ∧ R σ1 τ1
set_option maxRecDepth 100000 in
set_option maxHeartbeats 4000000 in
theorem lc_seed {p : Program} {l : Launch} {e : Env} {s : State} {m : MethodId} {args : Array Value} {below : List Frame} {meth : Method} {c : Code} {H : Heap} {locs : List Loc} {cells slots : Nat} {Q : State → Prop} {ls : Array Slot} {G : EN} {A : Nat → Prop} {A1 A2 : Nat → Nat} {σ τ : SC} {n bs L : Nat} {xs : Nat → Int32} {i3 : Int32} {R : SC → SC → Prop} (S : CallFix p m c code 4 s args GW RL) (hX : va_X bs L xs s s.heap) (hbl : bs < s.heap.size) (hbA : ¬ A bs) (z : Nat → Int32) (hin : ∀ t, t < 6 → vp_in (i3 + nI t) L) (ez : ∀ t, t < 6 → xs (i3 + nI t).toNatClampNeg = z t) (hcs : cells ≤ room_1.cells ∧ slots ≤ room_1.slots) (ag : ag_seed n R) (hR : R σ τ) (hW : WS G A s (wC G A1 σ ++ wM G A2 τ) H locs) (hl : lv_has ls 4 [(0, .ref bs), (1, .ref (A1 0)), (2, .ref (A2 0)), (3, .int i3)])
    (kk : ∀ (σ1 τ1 : SC) (H1 : Heap) (locs1 : List Loc), R σ1 τ1 → WS G A s (wC G A1 σ1 ++ wM G A2 τ1) H1 locs1 → W p l e room_1 s m args below meth c H1 locs1 cells slots Q (F0 m 1416 ls [])) : W p l e room_1 s m args below meth c H locs cells slots Q (F0 m 1321 ls []) := by
  have hx := S.1
  have hb := S.2.1
  refine lv_aload_n hx hb dL_law_1321 rfl (lv_at hl 1 rfl) ?_
  refine lv_aload_n hx hb dL_law_1322 rfl (lv_at hl 0 rfl) ?_
  refine lv_iload_n hx hb dL_law_1323 rfl (lv_at hl 3 rfl) ?_
  refine lv_iconst (v := 1) hx hb dL_law_1324 (by decide) ?_
  refine lv_iadd hx hb dL_law_1325 ?_
  refine x_sld S hX hbl hbA hW (hin 1 (by decide)) (ez 1 (by decide)) dL_law_1326 ?_
  obtain ⟨r, σ1, τ1, h1, h2, hR⟩ := ag σ τ (z 1) hR
  refine back2_i (rest := []) hW (run_V2 S hW (ct_X11_seed l G A1 σ _ (z 1) h1) mi_X11_seed lk_L_167 (eC_0 G A1 σ) rfl rfl rfl hl (Nat.le_of_ble_eq_true rfl) dL_law_1327 ⟨Nat.le_of_ble_eq_true rfl, Nat.le_of_ble_eq_true rfl⟩ rfl rfl hcs) (fun H locs hW => ?_)
  refine lv_aload_n hx hb dL_law_1330 rfl (lv_at hl 2 rfl) ?_
  refine lv_aload_n hx hb dL_law_1331 rfl (lv_at hl 0 rfl) ?_
  refine lv_iload_n hx hb dL_law_1332 rfl (lv_at hl 3 rfl) ?_
  refine lv_iconst (v := 1) hx hb dL_law_1333 (by decide) ?_
  refine lv_iadd hx hb dL_law_1334 ?_
  refine x_sld S hX hbl hbA hW (hin 1 (by decide)) (ez 1 (by decide)) dL_law_1335 ?_
  have hW := WS.swap hW
  refine back2_i (rest := [.int r]) hW (run_V2 S hW (ct_X12_seed l G A2 τ _ (z 1) h2) mi_X12_seed lk_L_170 (eM_0 G A2 τ) rfl rfl rfl hl (Nat.le_of_ble_eq_true rfl) dL_law_1336 ⟨Nat.le_of_ble_eq_true rfl, Nat.le_of_ble_eq_true rfl⟩ rfl rfl hcs) (fun H locs hW => ?_)
  have hW := WS.swap hW
  refine lv_icmp_eq (tgt := 1416) hx hb dL_law_1339 (by decide) (fun _ => ?_) (fun q => absurd rfl q)
  exact kk σ1 τ1 H locs hR hW
def ag_trace (n : Nat) (R : SC → SC → Prop) : Prop := ∀ (σ τ : SC) (a1 : Int32), R σ τ → ∃ (r : Int32), f_X11_trace σ a1 = some r ∧ f_X12_trace τ a1 = some r ∧ R σ τ
set_option maxRecDepth 100000 in
set_option maxHeartbeats 4000000 in
theorem lc_trace {p : Program} {l : Launch} {e : Env} {s : State} {m : MethodId} {args : Array Value} {below : List Frame} {meth : Method} {c : Code} {H : Heap} {locs : List Loc} {cells slots : Nat} {Q : State → Prop} {ls : Array Slot} {G : EN} {A : Nat → Prop} {A1 A2 : Nat → Nat} {σ τ : SC} {n bs L : Nat} {xs : Nat → Int32} {i3 : Int32} {R : SC → SC → Prop} (S : CallFix p m c code 4 s args GW RL) (hX : va_X bs L xs s s.heap) (hbl : bs < s.heap.size) (hbA : ¬ A bs) (z : Nat → Int32) (hin : ∀ t, t < 6 → vp_in (i3 + nI t) L) (ez : ∀ t, t < 6 → xs (i3 + nI t).toNatClampNeg = z t) (hcs : cells ≤ room_1.cells ∧ slots ≤ room_1.slots) (ag : ag_trace n R) (hR : R σ τ) (hW : WS G A s (wC G A1 σ ++ wM G A2 τ) H locs) (hl : lv_has ls 4 [(0, .ref bs), (1, .ref (A1 0)), (2, .ref (A2 0)), (3, .int i3)])
    (kk : ∀ (σ1 τ1 : SC) (H1 : Heap) (locs1 : List Loc), R σ1 τ1 → WS G A s (wC G A1 σ1 ++ wM G A2 τ1) H1 locs1 → W p l e room_1 s m args below meth c H1 locs1 cells slots Q (F0 m 1416 ls [])) : W p l e room_1 s m args below meth c H locs cells slots Q (F0 m 1344 ls []) := by
  have hx := S.1
  have hb := S.2.1
  refine lv_aload_n hx hb dL_law_1344 rfl (lv_at hl 1 rfl) ?_
  refine lv_aload_n hx hb dL_law_1345 rfl (lv_at hl 0 rfl) ?_
  refine lv_iload_n hx hb dL_law_1346 rfl (lv_at hl 3 rfl) ?_
  refine lv_iconst (v := 1) hx hb dL_law_1347 (by decide) ?_
  refine lv_iadd hx hb dL_law_1348 ?_
  refine x_sld S hX hbl hbA hW (hin 1 (by decide)) (ez 1 (by decide)) dL_law_1349 ?_
  obtain ⟨r, h1, h2, hR⟩ := ag σ τ (z 1) hR
  refine back2_i (rest := []) hW (run_V2 S hW (ct_X11_trace l G A1 σ _ (z 1) h1) mi_X11_trace lk_L_171 (eC_0 G A1 σ) rfl rfl rfl hl (Nat.le_of_ble_eq_true rfl) dL_law_1350 ⟨Nat.le_of_ble_eq_true rfl, Nat.le_of_ble_eq_true rfl⟩ rfl rfl hcs) (fun H locs hW => ?_)
  refine lv_aload_n hx hb dL_law_1353 rfl (lv_at hl 2 rfl) ?_
  refine lv_aload_n hx hb dL_law_1354 rfl (lv_at hl 0 rfl) ?_
  refine lv_iload_n hx hb dL_law_1355 rfl (lv_at hl 3 rfl) ?_
  refine lv_iconst (v := 1) hx hb dL_law_1356 (by decide) ?_
  refine lv_iadd hx hb dL_law_1357 ?_
  refine x_sld S hX hbl hbA hW (hin 1 (by decide)) (ez 1 (by decide)) dL_law_1358 ?_
  have hW := WS.swap hW
  refine back2_i (rest := [.int r]) hW (run_V2 S hW (ct_X12_trace l G A2 τ _ (z 1) h2) mi_X12_trace lk_L_174 (eM_0 G A2 τ) rfl rfl rfl hl (Nat.le_of_ble_eq_true rfl) dL_law_1359 ⟨Nat.le_of_ble_eq_true rfl, Nat.le_of_ble_eq_true rfl⟩ rfl rfl hcs) (fun H locs hW => ?_)
  have hW := WS.swap hW
  refine lv_icmp_eq (tgt := 1416) hx hb dL_law_1362 (by decide) (fun _ => ?_) (fun q => absurd rfl q)
  exact kk σ τ H locs hR hW
def ag_image (n : Nat) (R : SC → SC → Prop) : Prop := ∀ (σ τ : SC), R σ τ → ∃ (r : Int32) (σ1 : SC) (τ1 : SC), f_X11_image σ = some (r, σ1) ∧ f_X12_image n τ = some (r, τ1) ∧ R σ1 τ1
set_option maxRecDepth 100000 in
set_option maxHeartbeats 4000000 in
theorem lc_image {p : Program} {l : Launch} {e : Env} {s : State} {m : MethodId} {args : Array Value} {below : List Frame} {meth : Method} {c : Code} {H : Heap} {locs : List Loc} {cells slots : Nat} {Q : State → Prop} {ls : Array Slot} {G : EN} {A : Nat → Prop} {A1 A2 : Nat → Nat} {σ τ : SC} {n bs L : Nat} {xs : Nat → Int32} {i3 : Int32} {R : SC → SC → Prop} (S : CallFix p m c code 4 s args GW RL) (hX : va_X bs L xs s s.heap) (hbl : bs < s.heap.size) (hbA : ¬ A bs) (z : Nat → Int32) (hin : ∀ t, t < 6 → vp_in (i3 + nI t) L) (ez : ∀ t, t < 6 → xs (i3 + nI t).toNatClampNeg = z t) (hcs : cells ≤ room_1.cells ∧ slots ≤ room_1.slots) (ag : ag_image n R) (hR : R σ τ) (hW : WS G A s (wC G A1 σ ++ wM G A2 τ) H locs) (hl : lv_has ls 4 [(0, .ref bs), (1, .ref (A1 0)), (2, .ref (A2 0)), (3, .int i3)])
    (kk : ∀ (σ1 τ1 : SC) (H1 : Heap) (locs1 : List Loc), R σ1 τ1 → WS G A s (wC G A1 σ1 ++ wM G A2 τ1) H1 locs1 → W p l e room_1 s m args below meth c H1 locs1 cells slots Q (F0 m 1416 ls [])) : W p l e room_1 s m args below meth c H locs cells slots Q (F0 m 1367 ls []) := by
  have hx := S.1
  have hb := S.2.1
  refine lv_aload_n hx hb dL_law_1367 rfl (lv_at hl 1 rfl) ?_
  obtain ⟨r, σ1, τ1, h1, h2, hR⟩ := ag σ τ  hR
  refine back2_i (rest := []) hW (run_V2 S hW (ct_X11_image l G A1 σ _  h1) mi_X11_image lk_L_175 (eC_0 G A1 σ) rfl rfl rfl hl (Nat.le_of_ble_eq_true rfl) dL_law_1368 ⟨Nat.le_of_ble_eq_true rfl, Nat.le_of_ble_eq_true rfl⟩ rfl rfl hcs) (fun H locs hW => ?_)
  refine lv_aload_n hx hb dL_law_1371 rfl (lv_at hl 2 rfl) ?_
  have hW := WS.swap hW
  refine back2_i (rest := [.int r]) hW (run_V2 S hW (ct_X12_image l n G A2 τ _  h2) mi_X12_image lk_L_178 (eM_0 G A2 τ) rfl rfl rfl hl (Nat.le_of_ble_eq_true rfl) dL_law_1372 ⟨Nat.le_of_ble_eq_true rfl, Nat.le_of_ble_eq_true rfl⟩ rfl rfl hcs) (fun H locs hW => ?_)
  have hW := WS.swap hW
  refine lv_icmp_eq (tgt := 1416) hx hb dL_law_1375 (by decide) (fun _ => ?_) (fun q => absurd rfl q)
  exact kk σ1 τ1 H locs hR hW
def ag_restore (n : Nat) (R : SC → SC → Prop) : Prop := ∀ (σ τ : SC), R σ τ → ∃ (r : Int32) (σ1 : SC) (τ1 : SC), f_X11_restore n σ = some (r, σ1) ∧ f_X12_restore n τ = some (r, τ1) ∧ R σ1 τ1
set_option maxRecDepth 100000 in
set_option maxHeartbeats 4000000 in
theorem lc_restore {p : Program} {l : Launch} {e : Env} {s : State} {m : MethodId} {args : Array Value} {below : List Frame} {meth : Method} {c : Code} {H : Heap} {locs : List Loc} {cells slots : Nat} {Q : State → Prop} {ls : Array Slot} {G : EN} {A : Nat → Prop} {A1 A2 : Nat → Nat} {σ τ : SC} {n bs L : Nat} {xs : Nat → Int32} {i3 : Int32} {R : SC → SC → Prop} (S : CallFix p m c code 4 s args GW RL) (hX : va_X bs L xs s s.heap) (hbl : bs < s.heap.size) (hbA : ¬ A bs) (z : Nat → Int32) (hin : ∀ t, t < 6 → vp_in (i3 + nI t) L) (ez : ∀ t, t < 6 → xs (i3 + nI t).toNatClampNeg = z t) (hcs : cells ≤ room_1.cells ∧ slots ≤ room_1.slots) (ag : ag_restore n R) (hR : R σ τ) (hW : WS G A s (wC G A1 σ ++ wM G A2 τ) H locs) (hl : lv_has ls 4 [(0, .ref bs), (1, .ref (A1 0)), (2, .ref (A2 0)), (3, .int i3)])
    (kk : ∀ (σ1 τ1 : SC) (H1 : Heap) (locs1 : List Loc), R σ1 τ1 → WS G A s (wC G A1 σ1 ++ wM G A2 τ1) H1 locs1 → W p l e room_1 s m args below meth c H1 locs1 cells slots Q (F0 m 1416 ls [])) : W p l e room_1 s m args below meth c H locs cells slots Q (F0 m 1380 ls []) := by
  have hx := S.1
  have hb := S.2.1
  refine lv_aload_n hx hb dL_law_1380 rfl (lv_at hl 1 rfl) ?_
  obtain ⟨r, σ1, τ1, h1, h2, hR⟩ := ag σ τ  hR
  refine back2_i (rest := []) hW (run_V2 S hW (ct_X11_restore l n G A1 σ _  h1) mi_X11_restore lk_L_179 (eC_0 G A1 σ) rfl rfl rfl hl (Nat.le_of_ble_eq_true rfl) dL_law_1381 ⟨Nat.le_of_ble_eq_true rfl, Nat.le_of_ble_eq_true rfl⟩ rfl rfl hcs) (fun H locs hW => ?_)
  refine lv_aload_n hx hb dL_law_1384 rfl (lv_at hl 2 rfl) ?_
  have hW := WS.swap hW
  refine back2_i (rest := [.int r]) hW (run_V2 S hW (ct_X12_restore l n G A2 τ _  h2) mi_X12_restore lk_L_182 (eM_0 G A2 τ) rfl rfl rfl hl (Nat.le_of_ble_eq_true rfl) dL_law_1385 ⟨Nat.le_of_ble_eq_true rfl, Nat.le_of_ble_eq_true rfl⟩ rfl rfl hcs) (fun H locs hW => ?_)
  have hW := WS.swap hW
  refine lv_icmp_eq (tgt := 1416) hx hb dL_law_1388 (by decide) (fun _ => ?_) (fun q => absurd rfl q)
  exact kk σ1 τ1 H locs hR hW
def ag_status (n : Nat) (R : SC → SC → Prop) : Prop := ∀ (σ τ : SC) (a1 : Int32), R σ τ → ∃ (r : Int32), f_X11_status n σ a1 = some r ∧ f_X12_status n τ a1 = some r ∧ R σ τ
set_option maxRecDepth 100000 in
set_option maxHeartbeats 4000000 in
theorem lc_status {p : Program} {l : Launch} {e : Env} {s : State} {m : MethodId} {args : Array Value} {below : List Frame} {meth : Method} {c : Code} {H : Heap} {locs : List Loc} {cells slots : Nat} {Q : State → Prop} {ls : Array Slot} {G : EN} {A : Nat → Prop} {A1 A2 : Nat → Nat} {σ τ : SC} {n bs L : Nat} {xs : Nat → Int32} {i3 : Int32} {R : SC → SC → Prop} (S : CallFix p m c code 4 s args GW RL) (hX : va_X bs L xs s s.heap) (hbl : bs < s.heap.size) (hbA : ¬ A bs) (z : Nat → Int32) (hin : ∀ t, t < 6 → vp_in (i3 + nI t) L) (ez : ∀ t, t < 6 → xs (i3 + nI t).toNatClampNeg = z t) (hcs : cells ≤ room_1.cells ∧ slots ≤ room_1.slots) (ag : ag_status n R) (hR : R σ τ) (hW : WS G A s (wC G A1 σ ++ wM G A2 τ) H locs) (hl : lv_has ls 4 [(0, .ref bs), (1, .ref (A1 0)), (2, .ref (A2 0)), (3, .int i3)])
    (kk : ∀ (σ1 τ1 : SC) (H1 : Heap) (locs1 : List Loc), R σ1 τ1 → WS G A s (wC G A1 σ1 ++ wM G A2 τ1) H1 locs1 → W p l e room_1 s m args below meth c H1 locs1 cells slots Q (F0 m 1416 ls [])) : W p l e room_1 s m args below meth c H locs cells slots Q (F0 m 1393 ls []) := by
  have hx := S.1
  have hb := S.2.1
  refine lv_aload_n hx hb dL_law_1393 rfl (lv_at hl 1 rfl) ?_
  refine lv_aload_n hx hb dL_law_1394 rfl (lv_at hl 0 rfl) ?_
  refine lv_iload_n hx hb dL_law_1395 rfl (lv_at hl 3 rfl) ?_
  refine lv_iconst (v := 1) hx hb dL_law_1396 (by decide) ?_
  refine lv_iadd hx hb dL_law_1397 ?_
  refine x_sld S hX hbl hbA hW (hin 1 (by decide)) (ez 1 (by decide)) dL_law_1398 ?_
  obtain ⟨r, h1, h2, hR⟩ := ag σ τ (z 1) hR
  refine back2_i (rest := []) hW (run_V2 S hW (ct_X11_status l n G A1 σ _ (z 1) h1) mi_X11_status lk_L_183 (eC_0 G A1 σ) rfl rfl rfl hl (Nat.le_of_ble_eq_true rfl) dL_law_1399 ⟨Nat.le_of_ble_eq_true rfl, Nat.le_of_ble_eq_true rfl⟩ rfl rfl hcs) (fun H locs hW => ?_)
  refine lv_aload_n hx hb dL_law_1402 rfl (lv_at hl 2 rfl) ?_
  refine lv_aload_n hx hb dL_law_1403 rfl (lv_at hl 0 rfl) ?_
  refine lv_iload_n hx hb dL_law_1404 rfl (lv_at hl 3 rfl) ?_
  refine lv_iconst (v := 1) hx hb dL_law_1405 (by decide) ?_
  refine lv_iadd hx hb dL_law_1406 ?_
  refine x_sld S hX hbl hbA hW (hin 1 (by decide)) (ez 1 (by decide)) dL_law_1407 ?_
  have hW := WS.swap hW
  refine back2_i (rest := [.int r]) hW (run_V2 S hW (ct_X12_status l n G A2 τ _ (z 1) h2) mi_X12_status lk_L_186 (eM_0 G A2 τ) rfl rfl rfl hl (Nat.le_of_ble_eq_true rfl) dL_law_1408 ⟨Nat.le_of_ble_eq_true rfl, Nat.le_of_ble_eq_true rfl⟩ rfl rfl hcs) (fun H locs hW => ?_)
  have hW := WS.swap hW
  refine lv_icmp_eq (tgt := 1416) hx hb dL_law_1411 (by decide) (fun _ => ?_) (fun q => absurd rfl q)
  exact kk σ τ H locs hR hW
def Agr (n : Nat) (R : SC → SC → Prop) : Prop := ag_row n R ∧ ag_set n R ∧ ag_copy n R ∧ ag_element n R ∧ ag_show n R ∧ ag_holds n R ∧ ag_says n R ∧ ag_action n R ∧ ag_macro n R ∧ ag_read n R ∧ ag_fault n R ∧ ag_put n R ∧ ag_actionOf n R ∧ ag_may n R ∧ ag_then n R ∧ ag_level n R ∧ ag_first n R ∧ ag_firstOf n R ∧ ag_guess n R ∧ ag_relaxed n R ∧ ag_helpful n R ∧ ag_landmarks n R ∧ ag_isAhead n R ∧ ag_reached n R ∧ ag_state n R ∧ ag_far n R ∧ ag_numberOf n R ∧ ag_excluded n R ∧ ag_best n R ∧ ag_bestAt n R ∧ ag_spell n R ∧ ag_judge n R ∧ ag_behind n R ∧ ag_mostPair n R ∧ ag_greedy n R ∧ ag_walk n R ∧ ag_seed n R ∧ ag_trace n R ∧ ag_image n R ∧ ag_restore n R ∧ ag_status n R
set_option maxRecDepth 100000 in
set_option maxHeartbeats 4000000 in
theorem law_loop {p : Program} {l : Launch} {e : Env} {s : State} {m : MethodId} {args : Array Value} {below : List Frame} {meth : Method} {c : Code} {cells slots : Nat} {Q : State → Prop} {G : EN} {A : Nat → Prop} {A1 A2 : Nat → Nat} {n bs L : Nat} {xs : Nat → Int32} {R : SC → SC → Prop}
    (S : CallFix p m c code 4 s args GW RL) (hX : va_X bs L xs s s.heap) (hbl : bs < s.heap.size) (hbA : ¬ A bs) (hL : L ≤ 3072) (hcs : cells ≤ room_1.cells ∧ slots ≤ room_1.slots) (ag : Agr n R)
    (hend : ∀ (H : Heap) (locs : List Loc) (ls : Array Slot), va_S A s.heap H locs → W p l e room_1 s m args below meth c H locs cells slots Q (F0 m 1422 ls [])) :
    ∀ (f k : Nat) (σ τ : SC) (H : Heap) (locs : List Loc) (ls : Array Slot), k ≤ L + 6 → L + 7 ≤ k + f → R σ τ → WS G A s (wC G A1 σ ++ wM G A2 τ) H locs → lv_has ls 4 [(0, .ref bs), (1, .ref (A1 0)), (2, .ref (A2 0)), (3, .int (nI k))] → W p l e room_1 s m args below meth c H locs cells slots Q (F0 m 18 ls []) := by
  have hx := S.1
  have hb := S.2.1
  obtain ⟨ag0, ag1, ag2, ag3, ag4, ag5, ag6, ag7, ag8, ag9, ag10, ag11, ag12, ag13, ag14, ag15, ag16, ag17, ag18, ag19, ag20, ag21, ag22, ag23, ag24, ag25, ag26, ag27, ag28, ag29, ag30, ag31, ag32, ag33, ag34, ag35, ag36, ag37, ag38, ag39, ag40⟩ := ag
  intro f
  induction f with
  | zero => intro k σ τ H locs ls h1 h2; omega
  | succ f ih =>
    intro k σ τ H locs ls h1 h2 hR hW hl
    refine lv_iload_n hx hb dL_law_18 rfl (lv_at hl 3 rfl) ?_
    refine lv_aload_n hx hb dL_law_19 rfl (lv_at hl 0 rfl) ?_
    refine va_slen hx hb hX hbl hbA hW.2.2.2.1 dL_law_20 ?_
    refine lv_bipush (v := 6) hx hb dL_law_21 (by decide) ?_
    refine lv_isub hx hb dL_law_23 ?_
    refine lv_icmp_gt (tgt := 1422) hx hb dL_law_24 (by decide) (fun _ => hend H locs ls hW.2.2.2.1) (fun q => ?_)
    have hk : k + 6 ≤ L := by
      have e1 : (nI L - nI 6).toInt = (L : Int) - 6 := pk_sub_toInt (by omega) (by omega)
      have e2 : (nI k).toInt = (k : Int) := nI_toInt (by omega)
      have q2 : ¬ (nI L - nI 6) < nI k := q
      rw [Int32.lt_iff_toInt_lt, e1, e2] at q2
      omega
    have hin : ∀ t, t < 6 → vp_in (nI k + nI t) L := fun t ht => by rw [nI_add]; exact vp_in_nI (by omega) (by omega)
    have kk : ∀ (σ1 τ1 : SC) (H1 : Heap) (locs1 : List Loc), R σ1 τ1 → WS G A s (wC G A1 σ1 ++ wM G A2 τ1) H1 locs1 → W p l e room_1 s m args below meth c H1 locs1 cells slots Q (F0 m 1416 ls []) := by
      intro σ1 τ1 H1 locs1 hR1 hW1
      refine lv_iinc (v := nI (k + 6)) (lv' := [(3, .int (nI (k + 6))), (0, .ref bs), (1, .ref (A1 0)), (2, .ref (A2 0))]) hx hb dL_law_1416 hl (k := 3) rfl (nI_add k 6) (by decide) rfl (fun ls hl => ?_)
      refine lv_goto (tgt := 18) hx hb dL_law_1419 (by decide) ?_
      exact ih (k + 6) σ1 τ1 H1 locs1 ls (by omega) (by omega) hR1 hW1 (lv_sub hl [1, 2, 3, 0] rfl)
    refine lv_aload_n hx hb dL_law_27 rfl (lv_at hl 0 rfl) ?_
    refine lv_iload_n hx hb dL_law_28 rfl (lv_at hl 3 rfl) ?_
    refine x_sld S hX hbl hbA hW (by have := hin 0 (by omega); rwa [nI_add] at this) rfl dL_law_29 ?_
    refine lv_bipush (v := 63) hx hb dL_law_30 (by decide) ?_
    refine lv_iand hx hb dL_law_32 ?_
    obtain ⟨j, hj, ej⟩ := pk_andE (xs (nI k).toNatClampNeg) (m := 63) 6 (by decide)
    rw [ej]
    have tin : ∀ (j : Nat), j < 41 → ¬ (nI j).toInt < 0 ∧ ¬ 40 < (nI j).toInt := fun j hj => by rw [nI_toInt (by omega)]; omega
    match j, hj with
    | 0, _ => exact lv_tableIn (tgt := 212) (off := 179) hx hb dL_law_33 (tin 0 (by omega)).1 (tin 0 (by omega)).2 rfl (by decide) (lc_row S hX hbl hbA (fun t => xs (nI k + nI t).toNatClampNeg) hin (fun _ _ => rfl) hcs ag0 hR hW hl kk)
    | 1, _ => exact lv_tableIn (tgt := 255) (off := 222) hx hb dL_law_33 (tin 1 (by omega)).1 (tin 1 (by omega)).2 rfl (by decide) (lc_set S hX hbl hbA (fun t => xs (nI k + nI t).toNatClampNeg) hin (fun _ _ => rfl) hcs ag1 hR hW hl kk)
    | 2, _ => exact lv_tableIn (tgt := 328) (off := 295) hx hb dL_law_33 (tin 2 (by omega)).1 (tin 2 (by omega)).2 rfl (by decide) (lc_copy S hX hbl hbA (fun t => xs (nI k + nI t).toNatClampNeg) hin (fun _ _ => rfl) hcs ag2 hR hW hl kk)
    | 3, _ => exact lv_tableIn (tgt := 391) (off := 358) hx hb dL_law_33 (tin 3 (by omega)).1 (tin 3 (by omega)).2 rfl (by decide) (lc_element S hX hbl hbA (fun t => xs (nI k + nI t).toNatClampNeg) hin (fun _ _ => rfl) hcs ag3 hR hW hl kk)
    | 4, _ => exact lv_tableIn (tgt := 425) (off := 392) hx hb dL_law_33 (tin 4 (by omega)).1 (tin 4 (by omega)).2 rfl (by decide) (lc_show S hX hbl hbA (fun t => xs (nI k + nI t).toNatClampNeg) hin (fun _ _ => rfl) hcs ag4 hR hW hl kk)
    | 5, _ => exact lv_tableIn (tgt := 458) (off := 425) hx hb dL_law_33 (tin 5 (by omega)).1 (tin 5 (by omega)).2 rfl (by decide) (lc_holds S hX hbl hbA (fun t => xs (nI k + nI t).toNatClampNeg) hin (fun _ _ => rfl) hcs ag5 hR hW hl kk)
    | 6, _ => exact lv_tableIn (tgt := 481) (off := 448) hx hb dL_law_33 (tin 6 (by omega)).1 (tin 6 (by omega)).2 rfl (by decide) (lc_says S hX hbl hbA (fun t => xs (nI k + nI t).toNatClampNeg) hin (fun _ _ => rfl) hcs ag6 hR hW hl kk)
    | 7, _ => exact lv_tableIn (tgt := 514) (off := 481) hx hb dL_law_33 (tin 7 (by omega)).1 (tin 7 (by omega)).2 rfl (by decide) (lc_action S hX hbl hbA (fun t => xs (nI k + nI t).toNatClampNeg) hin (fun _ _ => rfl) hcs ag7 hR hW hl kk)
    | 8, _ => exact lv_tableIn (tgt := 567) (off := 534) hx hb dL_law_33 (tin 8 (by omega)).1 (tin 8 (by omega)).2 rfl (by decide) (lc_macro S hX hbl hbA (fun t => xs (nI k + nI t).toNatClampNeg) hin (fun _ _ => rfl) hcs ag8 hR hW hl kk)
    | 9, _ => exact lv_tableIn (tgt := 600) (off := 567) hx hb dL_law_33 (tin 9 (by omega)).1 (tin 9 (by omega)).2 rfl (by decide) (lc_read S hX hbl hbA (fun t => xs (nI k + nI t).toNatClampNeg) hin (fun _ _ => rfl) hcs ag9 hR hW hl kk)
    | 10, _ => exact lv_tableIn (tgt := 623) (off := 590) hx hb dL_law_33 (tin 10 (by omega)).1 (tin 10 (by omega)).2 rfl (by decide) (lc_fault S hX hbl hbA (fun t => xs (nI k + nI t).toNatClampNeg) hin (fun _ _ => rfl) hcs ag10 hR hW hl kk)
    | 11, _ => exact lv_tableIn (tgt := 636) (off := 603) hx hb dL_law_33 (tin 11 (by omega)).1 (tin 11 (by omega)).2 rfl (by decide) (lc_put S hX hbl hbA (fun t => xs (nI k + nI t).toNatClampNeg) hin (fun _ _ => rfl) hcs ag11 hR hW hl kk)
    | 12, _ => exact lv_tableIn (tgt := 669) (off := 636) hx hb dL_law_33 (tin 12 (by omega)).1 (tin 12 (by omega)).2 rfl (by decide) (lc_actionOf S hX hbl hbA (fun t => xs (nI k + nI t).toNatClampNeg) hin (fun _ _ => rfl) hcs ag12 hR hW hl kk)
    | 13, _ => exact lv_tableIn (tgt := 702) (off := 669) hx hb dL_law_33 (tin 13 (by omega)).1 (tin 13 (by omega)).2 rfl (by decide) (lc_may S hX hbl hbA (fun t => xs (nI k + nI t).toNatClampNeg) hin (fun _ _ => rfl) hcs ag13 hR hW hl kk)
    | 14, _ => exact lv_tableIn (tgt := 725) (off := 692) hx hb dL_law_33 (tin 14 (by omega)).1 (tin 14 (by omega)).2 rfl (by decide) (lc_then S hX hbl hbA (fun t => xs (nI k + nI t).toNatClampNeg) hin (fun _ _ => rfl) hcs ag14 hR hW hl kk)
    | 15, _ => exact lv_tableIn (tgt := 758) (off := 725) hx hb dL_law_33 (tin 15 (by omega)).1 (tin 15 (by omega)).2 rfl (by decide) (lc_level S hX hbl hbA (fun t => xs (nI k + nI t).toNatClampNeg) hin (fun _ _ => rfl) hcs ag15 hR hW hl kk)
    | 16, _ => exact lv_tableIn (tgt := 791) (off := 758) hx hb dL_law_33 (tin 16 (by omega)).1 (tin 16 (by omega)).2 rfl (by decide) (lc_first S hX hbl hbA (fun t => xs (nI k + nI t).toNatClampNeg) hin (fun _ _ => rfl) hcs ag16 hR hW hl kk)
    | 17, _ => exact lv_tableIn (tgt := 824) (off := 791) hx hb dL_law_33 (tin 17 (by omega)).1 (tin 17 (by omega)).2 rfl (by decide) (lc_firstOf S hX hbl hbA (fun t => xs (nI k + nI t).toNatClampNeg) hin (fun _ _ => rfl) hcs ag17 hR hW hl kk)
    | 18, _ => exact lv_tableIn (tgt := 857) (off := 824) hx hb dL_law_33 (tin 18 (by omega)).1 (tin 18 (by omega)).2 rfl (by decide) (lc_guess S hX hbl hbA (fun t => xs (nI k + nI t).toNatClampNeg) hin (fun _ _ => rfl) hcs ag18 hR hW hl kk)
    | 19, _ => exact lv_tableIn (tgt := 890) (off := 857) hx hb dL_law_33 (tin 19 (by omega)).1 (tin 19 (by omega)).2 rfl (by decide) (lc_relaxed S hX hbl hbA (fun t => xs (nI k + nI t).toNatClampNeg) hin (fun _ _ => rfl) hcs ag19 hR hW hl kk)
    | 20, _ => exact lv_tableIn (tgt := 913) (off := 880) hx hb dL_law_33 (tin 20 (by omega)).1 (tin 20 (by omega)).2 rfl (by decide) (lc_helpful S hX hbl hbA (fun t => xs (nI k + nI t).toNatClampNeg) hin (fun _ _ => rfl) hcs ag20 hR hW hl kk)
    | 21, _ => exact lv_tableIn (tgt := 936) (off := 903) hx hb dL_law_33 (tin 21 (by omega)).1 (tin 21 (by omega)).2 rfl (by decide) (lc_landmarks S hX hbl hbA (fun t => xs (nI k + nI t).toNatClampNeg) hin (fun _ _ => rfl) hcs ag21 hR hW hl kk)
    | 22, _ => exact lv_tableIn (tgt := 949) (off := 916) hx hb dL_law_33 (tin 22 (by omega)).1 (tin 22 (by omega)).2 rfl (by decide) (lc_isAhead S hX hbl hbA (fun t => xs (nI k + nI t).toNatClampNeg) hin (fun _ _ => rfl) hcs ag22 hR hW hl kk)
    | 23, _ => exact lv_tableIn (tgt := 982) (off := 949) hx hb dL_law_33 (tin 23 (by omega)).1 (tin 23 (by omega)).2 rfl (by decide) (lc_reached S hX hbl hbA (fun t => xs (nI k + nI t).toNatClampNeg) hin (fun _ _ => rfl) hcs ag23 hR hW hl kk)
    | 24, _ => exact lv_tableIn (tgt := 995) (off := 962) hx hb dL_law_33 (tin 24 (by omega)).1 (tin 24 (by omega)).2 rfl (by decide) (lc_state S hX hbl hbA (fun t => xs (nI k + nI t).toNatClampNeg) hin (fun _ _ => rfl) hcs ag24 hR hW hl kk)
    | 25, _ => exact lv_tableIn (tgt := 1018) (off := 985) hx hb dL_law_33 (tin 25 (by omega)).1 (tin 25 (by omega)).2 rfl (by decide) (lc_far S hX hbl hbA (fun t => xs (nI k + nI t).toNatClampNeg) hin (fun _ _ => rfl) hcs ag25 hR hW hl kk)
    | 26, _ => exact lv_tableIn (tgt := 1041) (off := 1008) hx hb dL_law_33 (tin 26 (by omega)).1 (tin 26 (by omega)).2 rfl (by decide) (lc_numberOf S hX hbl hbA (fun t => xs (nI k + nI t).toNatClampNeg) hin (fun _ _ => rfl) hcs ag26 hR hW hl kk)
    | 27, _ => exact lv_tableIn (tgt := 1064) (off := 1031) hx hb dL_law_33 (tin 27 (by omega)).1 (tin 27 (by omega)).2 rfl (by decide) (lc_excluded S hX hbl hbA (fun t => xs (nI k + nI t).toNatClampNeg) hin (fun _ _ => rfl) hcs ag27 hR hW hl kk)
    | 28, _ => exact lv_tableIn (tgt := 1087) (off := 1054) hx hb dL_law_33 (tin 28 (by omega)).1 (tin 28 (by omega)).2 rfl (by decide) (lc_best S hX hbl hbA (fun t => xs (nI k + nI t).toNatClampNeg) hin (fun _ _ => rfl) hcs ag28 hR hW hl kk)
    | 29, _ => exact lv_tableIn (tgt := 1110) (off := 1077) hx hb dL_law_33 (tin 29 (by omega)).1 (tin 29 (by omega)).2 rfl (by decide) (lc_bestAt S hX hbl hbA (fun t => xs (nI k + nI t).toNatClampNeg) hin (fun _ _ => rfl) hcs ag29 hR hW hl kk)
    | 30, _ => exact lv_tableIn (tgt := 1133) (off := 1100) hx hb dL_law_33 (tin 30 (by omega)).1 (tin 30 (by omega)).2 rfl (by decide) (lc_spell S hX hbl hbA (fun t => xs (nI k + nI t).toNatClampNeg) hin (fun _ _ => rfl) hcs ag30 hR hW hl kk)
    | 31, _ => exact lv_tableIn (tgt := 1156) (off := 1123) hx hb dL_law_33 (tin 31 (by omega)).1 (tin 31 (by omega)).2 rfl (by decide) (lc_judge S hX hbl hbA (fun t => xs (nI k + nI t).toNatClampNeg) hin (fun _ _ => rfl) hcs ag31 hR hW hl kk)
    | 32, _ => exact lv_tableIn (tgt := 1189) (off := 1156) hx hb dL_law_33 (tin 32 (by omega)).1 (tin 32 (by omega)).2 rfl (by decide) (lc_behind S hX hbl hbA (fun t => xs (nI k + nI t).toNatClampNeg) hin (fun _ _ => rfl) hcs ag32 hR hW hl kk)
    | 33, _ => exact lv_tableIn (tgt := 1232) (off := 1199) hx hb dL_law_33 (tin 33 (by omega)).1 (tin 33 (by omega)).2 rfl (by decide) (lc_mostPair S hX hbl hbA (fun t => xs (nI k + nI t).toNatClampNeg) hin (fun _ _ => rfl) hcs ag33 hR hW hl kk)
    | 34, _ => exact lv_tableIn (tgt := 1265) (off := 1232) hx hb dL_law_33 (tin 34 (by omega)).1 (tin 34 (by omega)).2 rfl (by decide) (lc_greedy S hX hbl hbA (fun t => xs (nI k + nI t).toNatClampNeg) hin (fun _ _ => rfl) hcs ag34 hR hW hl kk)
    | 35, _ => exact lv_tableIn (tgt := 1298) (off := 1265) hx hb dL_law_33 (tin 35 (by omega)).1 (tin 35 (by omega)).2 rfl (by decide) (lc_walk S hX hbl hbA (fun t => xs (nI k + nI t).toNatClampNeg) hin (fun _ _ => rfl) hcs ag35 hR hW hl kk)
    | 36, _ => exact lv_tableIn (tgt := 1321) (off := 1288) hx hb dL_law_33 (tin 36 (by omega)).1 (tin 36 (by omega)).2 rfl (by decide) (lc_seed S hX hbl hbA (fun t => xs (nI k + nI t).toNatClampNeg) hin (fun _ _ => rfl) hcs ag36 hR hW hl kk)
    | 37, _ => exact lv_tableIn (tgt := 1344) (off := 1311) hx hb dL_law_33 (tin 37 (by omega)).1 (tin 37 (by omega)).2 rfl (by decide) (lc_trace S hX hbl hbA (fun t => xs (nI k + nI t).toNatClampNeg) hin (fun _ _ => rfl) hcs ag37 hR hW hl kk)
    | 38, _ => exact lv_tableIn (tgt := 1367) (off := 1334) hx hb dL_law_33 (tin 38 (by omega)).1 (tin 38 (by omega)).2 rfl (by decide) (lc_image S hX hbl hbA (fun t => xs (nI k + nI t).toNatClampNeg) hin (fun _ _ => rfl) hcs ag38 hR hW hl kk)
    | 39, _ => exact lv_tableIn (tgt := 1380) (off := 1347) hx hb dL_law_33 (tin 39 (by omega)).1 (tin 39 (by omega)).2 rfl (by decide) (lc_restore S hX hbl hbA (fun t => xs (nI k + nI t).toNatClampNeg) hin (fun _ _ => rfl) hcs ag39 hR hW hl kk)
    | 40, _ => exact lv_tableIn (tgt := 1393) (off := 1360) hx hb dL_law_33 (tin 40 (by omega)).1 (tin 40 (by omega)).2 rfl (by decide) (lc_status S hX hbl hbA (fun t => xs (nI k + nI t).toNatClampNeg) hin (fun _ _ => rfl) hcs ag40 hR hW hl kk)
    | j + 41, hj => exact lv_tableOut (tgt := 1416) hx hb dL_law_33 (Or.inr (by rw [nI_toInt (by omega)]; omega)) (by decide) (kk σ τ H locs hR hW)
