/-! THE JDK'S OWN: fills of rows, text constants' length and charAt, arraycopy -/
theorem set_self {α : Type} : ∀ (l : List α) (q : Nat) (x : α), l[q]? = some x → l.set q x = l
  | [], _, _, _ => rfl
  | a :: l, 0, x, h => by simp at h; simp [h]
  | a :: l, q + 1, x, h => by
    rw [List.set_cons_succ, set_self l q x (by simpa using h)]
theorem get_set {α : Type} {l : List α} {q : Nat} {x y : α} (h : l[q]? = some x) : (l.set q y)[q]? = some y := by
  have hl : q < l.length := (List.getElem?_eq_some_iff.mp h).1
  simp [hl]
theorem arrV_cong (cA : ClassId) (n : Nat) {f g : Nat → Value} (h : ∀ k, k < n → f k = g k) : arrV cA n f = arrV cA n g := by
  have e : (Array.ofFn (n := n) fun j => f j.val) = (Array.ofFn (n := n) fun j => g j.val) := congrArg Array.ofFn (funext fun j => h j.val j.isLt)
  simp only [arrV, e]
theorem WS.cell {G : EN} {A : Nat → Prop} {s : State} {ws : va_W} {H : Heap} {locs : List Loc} {q0 a : Nat} {c : ClassId} {x y : vp_A} (he : vp_cell c x = vp_cell c y) (hW : WS G A s (ws.set q0 (a, .inl (c, x))) H locs) : WS G A s (ws.set q0 (a, .inl (c, y))) H locs := by
  have key : ∀ (k : Nat) (q : Nat × va_E), (ws.set q0 (a, .inl (c, y)))[k]? = some q → ∃ q', (ws.set q0 (a, .inl (c, x)))[k]? = some q' ∧ q'.1 = q.1 ∧ (∀ H, va_at G.1 vwCl q' H → va_at G.1 vwCl q H) := by
    intro k q h
    rw [List.getElem?_set] at h ⊢
    by_cases hq : q0 = k
    · subst hq
      simp only [if_true] at h ⊢
      split at h
      · next hl =>
        cases h
        refine ⟨_, if_pos hl, rfl, fun H h => ?_⟩
        show H[a]? = some (vp_cell c y)
        rw [← he]
        exact h
      · cases h
    · rw [if_neg hq] at h ⊢
      exact ⟨q, h, rfl, fun _ h => h⟩
  refine ⟨hW.1, fun k q h => ?_, ⟨fun i j p q hi hj e => ?_, fun k q h => ?_⟩, hW.2.2.2⟩
  · obtain ⟨q', h1, h2, h3⟩ := key k q h
    exact h3 _ (hW.2.1 k q' h1)
  · obtain ⟨p', h1, h2, -⟩ := key i p hi
    obtain ⟨q', h3, h4, -⟩ := key j q hj
    exact hW.2.2.1.1 i j p' q' h1 h3 (by rw [h2, h4]; exact e)
  · obtain ⟨q', h1, h2, -⟩ := key k q h
    rw [← h2]
    exact hW.2.2.1.2 k q' h1
def fl {α : Type} (f : Nat → α) (v : α) (i : Nat) : Nat → α := fun k => if k < i then v else f k
theorem fl_0 {α : Type} (f : Nat → α) (v : α) : fl f v 0 = f := funext fun k => by simp [fl]
theorem fl_s (f : Nat → Int32) (v : Int32) (i : Nat) : upd (fl f v i) i v = fl f v (i + 1) := funext fun k => by
  by_cases h : k = i
  · subst h; rw [pk_us]; simp [fl]
  · rw [pk_un h]
    simp only [fl]
    by_cases h2 : k < i
    · rw [if_pos h2, if_pos (by omega)]
    · rw [if_neg h2, if_neg (by omega)]
theorem fl_sL (f : Nat → Int64) (v : Int64) (i : Nat) : vp_updL (fl f v i) i v = fl f v (i + 1) := funext fun k => by
  by_cases h : k = i
  · subst h; rw [pk_uLs]; simp [fl]
  · rw [pk_uLn h]
    simp only [fl]
    by_cases h2 : k < i
    · rw [if_pos h2, if_pos (by omega)]
    · rw [if_neg h2, if_neg (by omega)]
def rmFill : Room := { frames := 0, cells := 0, slots := 0, locals := 0 }
theorem ms_J7_fill_53178 : MSt yJ7_fill_53178 cJ7_fill_53178 4 none 2 := ⟨sm_J7_fill_53178, in_J7, co_J7_fill_53178, by decide, by decide, by decide +kernel⟩
theorem ms_J7_fill_d0a16 : MSt yJ7_fill_d0a16 cJ7_fill_d0a16 5 none 2 := ⟨sm_J7_fill_d0a16, in_J7, co_J7_fill_d0a16, by decide, by decide, by decide +kernel⟩
set_option maxHeartbeats 4000000 in
set_option maxRecDepth 100000 in
theorem ct_fillI (l : Launch) (G : EN) (sz : Nat) {ws ws0 : va_W} {q0 a n : Nat} {f : Nat → Int32} {v : Int32} (ha : ws[q0]? = some (a, .inl (G.2.1 0, n, .inl f))) (hws : ws.set q0 (a, .inl (G.2.1 0, n, .inl (fun _ => v))) = ws0) (hn : n < 2 ^ 31) : CT l yJ7_fill_53178 cJ7_fill_53178 4 none rmFill G sz [.ref a, .int v] ws (QV G (va_A ws sz) ws0) := by
  subst hws
  refine CV.intro (lv := [(0, .ref a), (1, .int v)]) (by decide) (Nat.le_of_ble_eq_true rfl) rfl ?_
  intro p e s m args below meth c Q B S hret H locs ls hW hl
  have hx := S.1
  have hb := S.2.1
  refine lv_iconst (v := 0) hx hb dJ7_fill_53178_0 (by decide) ?_
  refine lv_istore_n (lv' := [(2, .int 0), (0, .ref a), (1, .int v)]) hx hb dJ7_fill_53178_1 rfl hl (by decide) rfl (fun ls hl => ?_)
  refine lv_aload_n hx hb dJ7_fill_53178_2 rfl (lv_at hl 1 rfl) ?_
  refine va_alen hx hb hW.1 hW.2.1 q0 0 ha rfl (v := nI n) rfl dJ7_fill_53178_3 ?_
  refine lv_istore_n (lv' := [(3, .int (nI n)), (2, .int 0), (0, .ref a), (1, .int v)]) hx hb dJ7_fill_53178_4 rfl hl (by decide) rfl (fun ls hl => ?_)
  have hL : ∀ (k i : Nat) (H : Heap) (locs : List Loc) (ls : Array Slot), i ≤ n → n < i + k → WS G B s (ws.set q0 (a, .inl (G.2.1 0, n, .inl (fl f v i)))) H locs → lv_has ls 4 [(0, .ref a), (1, .int v), (2, .int (nI i)), (3, .int (nI n))] → W p l e rmFill s m args below meth c H locs 0 0 Q (F0 m 5 ls []) := by
    intro k
    induction k with
    | zero => intro i H locs ls h1 h2; omega
    | succ k ih =>
      intro i H locs ls h1 h2 hW hl
      refine lv_iload_n hx hb dJ7_fill_53178_5 rfl (lv_at hl 2 rfl) ?_
      refine lv_iload_n hx hb dJ7_fill_53178_6 rfl (lv_at hl 3 rfl) ?_
      refine lv_icmp_ge (tgt := 20) hx hb dJ7_fill_53178_7 (by decide) (fun c1 => ?_) (fun c1 => ?_)
      · have e : i = n := by
          rcases Nat.lt_or_ge i n with q | q
          · exact absurd c1 (nI_ge q hn)
          · omega
        subst e
        refine hret H locs _ ls (hW.cell ?_) dJ7_fill_53178_20
        exact arrV_cong (f := fun j => .int (fl f v i j)) (g := fun _ => .int v) _ _ (fun k hk => congrArg Value.int (if_pos hk))
      · have e : i < n := by
          rcases Nat.lt_or_ge i n with q | q
          · exact q
          · exact absurd (nI_le q (by omega)) c1
        refine lv_aload_n hx hb dJ7_fill_53178_10 rfl (lv_at hl 0 rfl) ?_
        refine lv_iload_n hx hb dJ7_fill_53178_11 rfl (lv_at hl 2 rfl) ?_
        refine lv_iload_n hx hb dJ7_fill_53178_12 rfl (lv_at hl 1 rfl) ?_
        refine x_iast (ws0 := ws.set q0 (a, .inl (G.2.1 0, n, .inl (fl f v (i + 1))))) S hW q0 (get_set ha) (vp_in_nI e hn) (by rw [List.set_set, nI_clamp (by omega), fl_s]) dJ7_fill_53178_13 (fun H locs hW => ?_)
        refine lv_iinc (v := nI (i + 1)) (lv' := [(2, .int (nI (i + 1))), (0, .ref a), (1, .int v), (3, .int (nI n))]) hx hb dJ7_fill_53178_14 hl (k := 2) rfl (nI_1 i) (by decide) rfl (fun ls hl => ?_)
        refine lv_goto (tgt := 5) hx hb dJ7_fill_53178_17 (by decide) ?_
        exact ih (i + 1) _ _ _ (by omega) (by omega) hW (lv_sub hl [1, 2, 0, 3] rfl)
  refine hL (n + 1) 0 _ _ _ (by omega) (by omega) ?_ (lv_sub hl [2, 3, 1, 0] rfl)
  rw [fl_0, set_self _ _ _ ha]
  exact hW
set_option maxHeartbeats 4000000 in
set_option maxRecDepth 100000 in
theorem ct_fillJ (l : Launch) (G : EN) (sz : Nat) {ws ws0 : va_W} {q0 a n : Nat} {f : Nat → Int64} {v : Int64} (ha : ws[q0]? = some (a, .inl (G.2.1 1, n, .inr (.inl f)))) (hws : ws.set q0 (a, .inl (G.2.1 1, n, .inr (.inl (fun _ => v)))) = ws0) (hn : n < 2 ^ 31) : CT l yJ7_fill_d0a16 cJ7_fill_d0a16 5 none rmFill G sz [.ref a, .long v] ws (QV G (va_A ws sz) ws0) := by
  subst hws
  refine CV.intro (lv := [(0, .ref a), (1, .long v)]) (by decide) (Nat.le_of_ble_eq_true rfl) rfl ?_
  intro p e s m args below meth c Q B S hret H locs ls hW hl
  have hx := S.1
  have hb := S.2.1
  refine lv_iconst (v := 0) hx hb dJ7_fill_d0a16_0 (by decide) ?_
  refine lv_istore_n (lv' := [(3, .int 0), (0, .ref a), (1, .long v)]) hx hb dJ7_fill_d0a16_1 rfl hl (by decide) rfl (fun ls hl => ?_)
  refine lv_aload_n hx hb dJ7_fill_d0a16_2 rfl (lv_at hl 1 rfl) ?_
  refine va_alen hx hb hW.1 hW.2.1 q0 1 ha rfl (v := nI n) rfl dJ7_fill_d0a16_3 ?_
  refine lv_istore (lv' := [(4, .int (nI n)), (3, .int 0), (0, .ref a), (1, .long v)]) hx hb dJ7_fill_d0a16_4 hl (by decide) rfl (fun ls hl => ?_)
  have hL : ∀ (k i : Nat) (H : Heap) (locs : List Loc) (ls : Array Slot), i ≤ n → n < i + k → WS G B s (ws.set q0 (a, .inl (G.2.1 1, n, .inr (.inl (fl f v i))))) H locs → lv_has ls 5 [(0, .ref a), (1, .long v), (3, .int (nI i)), (4, .int (nI n))] → W p l e rmFill s m args below meth c H locs 0 0 Q (F0 m 6 ls []) := by
    intro k
    induction k with
    | zero => intro i H locs ls h1 h2; omega
    | succ k ih =>
      intro i H locs ls h1 h2 hW hl
      refine lv_iload_n hx hb dJ7_fill_d0a16_6 rfl (lv_at hl 2 rfl) ?_
      refine lv_iload hx hb dJ7_fill_d0a16_7 (lv_at hl 3 rfl) ?_
      refine lv_icmp_ge (tgt := 22) hx hb dJ7_fill_d0a16_9 (by decide) (fun c1 => ?_) (fun c1 => ?_)
      · have e : i = n := by
          rcases Nat.lt_or_ge i n with q | q
          · exact absurd c1 (nI_ge q hn)
          · omega
        subst e
        refine hret H locs _ ls (hW.cell ?_) dJ7_fill_d0a16_22
        exact arrV_cong (f := fun j => .long (fl f v i j)) (g := fun _ => .long v) _ _ (fun k hk => congrArg Value.long (if_pos hk))
      · have e : i < n := by
          rcases Nat.lt_or_ge i n with q | q
          · exact q
          · exact absurd (nI_le q (by omega)) c1
        refine lv_aload_n hx hb dJ7_fill_d0a16_12 rfl (lv_at hl 0 rfl) ?_
        refine lv_iload_n hx hb dJ7_fill_d0a16_13 rfl (lv_at hl 2 rfl) ?_
        refine lv_lload_n hx hb dJ7_fill_d0a16_14 rfl (lv_at hl 1 rfl) ?_
        refine x_last (ws0 := ws.set q0 (a, .inl (G.2.1 1, n, .inr (.inl (fl f v (i + 1)))))) S hW q0 (get_set ha) (vp_in_nI e hn) (by rw [List.set_set, nI_clamp (by omega), fl_sL]) dJ7_fill_d0a16_15 (fun H locs hW => ?_)
        refine lv_iinc (v := nI (i + 1)) (lv' := [(3, .int (nI (i + 1))), (0, .ref a), (1, .long v), (4, .int (nI n))]) hx hb dJ7_fill_d0a16_16 hl (k := 2) rfl (nI_1 i) (by decide) rfl (fun ls hl => ?_)
        refine lv_goto (tgt := 6) hx hb dJ7_fill_d0a16_19 (by decide) ?_
        exact ih (i + 1) _ _ _ (by omega) (by omega) hW (lv_sub hl [1, 2, 0, 3] rfl)
  refine hL (n + 1) 0 _ _ _ (by omega) (by omega) ?_ (lv_sub hl [2, 3, 1, 0] rfl)
  rw [fl_0, set_self _ _ _ ha]
  exact hW
/-! text constants -/
def sln (i : Nat) : Int32 := nI (sLen.getD i 0)
def sch (i k : Nat) : Int32 := (sByt.getD i []).getD k 0 &&& 255
def sc {β : Type} (w : Nat) (k : Int32) (K : Int32 → Option β) : Option β := if gin k (sLen.getD w 0) = true then K (sch w k.toNatClampNeg) else none
theorem sc_o {β : Type} {w : Nat} {k : Int32} {K : Int32 → Option β} {r : β} (h : sc w k K = some r) : vp_in k (sLen.getD w 0) ∧ ∃ z, z = sch w k.toNatClampNeg ∧ K z = some r := by
  unfold sc at h
  split at h
  · next q => exact ⟨gin_in.mp q, _, rfl, h⟩
  · cases h
section RS
variable {p : Program} {l : Launch} {e : Env} {R : Room} {s : State} {m : MethodId} {args : Array Value} {below : List Frame} {meth : Method} {c : Code} {H : Heap} {locs : List Loc} {Q : State → Prop}
variable {cc : ByteArray} {pc : Nat} {ls : Array Slot} {rest : List Value} {G : EN} {A : Nat → Prop} {ws : va_W} {nL : Nat} {own : String}
variable {y : MethodName} {b : ByteArray} {nLy n index i : Nat} {ret : Option FieldType} {rm : Room} {As st0 : List Value} {Qx : Array Value → State → Outcome → State → Prop} {lv : List (Nat × Value)}
theorem run_Str (S : CallFix p m c cc nL s args GW own) (hW : WS G A s ws H locs) (hl : lv_has ls nL lv) (ct : CT l y b nLy ret rm G H.size (.ref (G.2.2.1 i) :: As) ws Qx) (M : MI y b nLy ret n) (hlk : Cond.methodLink own index y ∈ GW) (hro : (rest.map fun v => v.category).sum ≤ 8) (hdg : decode cc pc = .ok (.invokevirtual index, 3)) (hR : rm.frames + 1 ≤ R.frames ∧ 8 + (nLy + 11) + rm.locals ≤ R.locals) (hi : i < 8)
    (hy : y.cls = "java/lang/String") (hn : As.length = n) (hst : st0 = As.reverse ++ .ref (G.2.2.1 i) :: rest) (hrc : rm.cells = 0) (hrs : rm.slots = 0) :
    va_Run p l e R s m args below meth c H locs 0 0 0 0 (F0 m pc ls st0) rest (Qx (Value.ref (G.2.2.1 i) :: As).toArray) (va_A ws H.size) := by
  obtain ⟨m1, m2, m3, m4, m5, m6, m7⟩ := M
  have hts := S.2.2.2.2
  refine va_runV (C := y.cls) (b := G.2.2.1 i) (As := As) (rest := rest) S ct ⟨callB_of n hts (GW_in m4) rfl hrc hrs (hts _ m3) (hts _ hlk) ⟨m5, m6, m7⟩ hR, hts _ m1, hts _ m2⟩ ⟨PW.blind _, ?_, ?_⟩ rfl hn hl.1 hst (lv_room hro) hdg ⟨Nat.zero_le _, Nat.zero_le _⟩
  · rw [hy]
    exact vk_recv hW.2.2.2.2.2.1 hi hW.2.2.2.1
  · intro U hU hWm
    exact ⟨rfl, by rw [hU], by rw [hU]; exact hW.2.1, va_K.moved hWm.alike hW.1, hW.2.2.1.weaken (fun _ _ _ _ => trivial), hW.2.2.2.2.2.call hW.2.2.2.1 hU hWm (fun q hq => va_free_self hW.2.2.1 hW.2.2.2.1 hW.2.2.2.2.1 q hq)⟩
theorem x_talen {t N : Nat} {f : Nat → Value} {ty : FieldType} (S : CallFix p m c cc nL s args GW own) (hW : WS G A s ws H locs) (hT : va_T ty t N f A s s.heap) (hdg : decode cc pc = .ok (.arraylength, 1))
    (kk : W p l e R s m args below meth c H locs 0 0 Q (F0 m (pc + 1) ls (.int (nI N) :: rest))) : W p l e R s m args below meth c H locs 0 0 Q (F0 m pc ls (.ref t :: rest)) := by
  obtain ⟨cell, h1, h2, h3, h4, h5, h6, h7⟩ := hT
  exact W.alen (n := nI N) S.1 S.2.1 (by rw [hW.2.2.2.1.2.1 t (Array.getElem?_eq_some_iff.mp h1).1 h7]; exact h1) h2 h5 rfl rfl hdg kk
end RS
theorem mi_coder : MI yJ0_coder_7d493 cJ0_coder_7d493 1 (some .byte) 0 := ⟨im_J0_coder_7d493, se_J0_coder_7d493, in_J0, co_J0_coder_7d493, by decide, by decide, by decide +kernel⟩
theorem mi_isLatin1 : MI yJ0_isLatin1_aae02 cJ0_isLatin1_aae02 1 (some .boolean) 0 := ⟨im_J0_isLatin1_aae02, se_J0_isLatin1_aae02, in_J0, co_J0_isLatin1_aae02, by decide, by decide, by decide +kernel⟩
theorem mi_length : MI yJ0_length_8abf5 cJ0_length_8abf5 1 (some .int) 0 := ⟨im_J0_length_8abf5, se_J0_length_8abf5, in_J0, co_J0_length_8abf5, by decide, by decide, by decide +kernel⟩
theorem mi_charAt : MI yJ0_charAt_5068e cJ0_charAt_5068e 2 (some .char) 1 := ⟨im_J0_charAt_5068e, se_J0_charAt_5068e, in_J0, co_J0_charAt_5068e, by decide, by decide, by decide +kernel⟩
theorem ms_charAt1 : MSt yJ1_charAt_3b067 cJ1_charAt_3b067 2 (some .char) 2 := ⟨sm_J1_charAt_3b067, in_J1, co_J1_charAt_3b067, by decide, by decide, by decide +kernel⟩
theorem ms_checkIndex : MSt yJ0_checkIndex_df160 cJ0_checkIndex_df160 2 none 2 := ⟨sm_J0_checkIndex_df160, in_J0, co_J0_checkIndex_df160, by decide, by decide, by decide +kernel⟩
theorem ms_checkIndexP : MSt yJ3_checkIndex_8e157 cJ3_checkIndex_8e157 3 (some .int) 3 := ⟨sm_J3_checkIndex_8e157, in_J3, co_J3_checkIndex_8e157, by decide, by decide, by decide +kernel⟩
def rmS0 : Room := { frames := 0, cells := 0, slots := 0, locals := 0 }
def rmS1 : Room := { frames := 1, cells := 0, slots := 0, locals := 30 }
def rmS2 : Room := { frames := 2, cells := 0, slots := 0, locals := 60 }
def rmS3 : Room := { frames := 3, cells := 0, slots := 0, locals := 90 }
set_option maxHeartbeats 4000000 in
set_option maxRecDepth 100000 in
theorem ct_coder (l : Launch) (G : EN) {ws : va_W} (sz : Nat) {i : Nat} (hi : i < 8) : CT l yJ0_coder_7d493 cJ0_coder_7d493 1 (some .byte) rmS0 G sz [.ref (G.2.2.1 i)] ws (QI G (va_A ws sz) 0 ws) := by
  refine CI.intro (lv := [(0, .ref (G.2.2.1 i))]) (by decide) (Nat.le_of_ble_eq_true rfl) rfl ?_
  intro p e s m args below meth c Q B S hret H locs ls hW hl
  have hx := S.1
  have hb := S.2.1
  refine va_gets hx hb hW.2.2.2.2.2.2.1 hW.2.2.2.1 S.2.2.2.1 (S.2.2.2.2 _ lk_J0_38) (fun _ h => h) dJ0_coder_7d493_0 ?_
  refine lv_if_eq (tgt := 13) hx hb dJ0_coder_7d493_3 (by decide) (fun q => absurd q (by decide)) (fun _ => ?_)
  refine lv_aload_n hx hb dJ0_coder_7d493_6 rfl (lv_at hl 0 rfl) ?_
  refine vk_getf hx hb (hW.2.2.2.2.2.1.1 i hi).2.1 hW.2.2.2.1 S.2.2.2.1 (S.2.2.2.2 _ lk_J0_15) (fun _ h => h) dJ0_coder_7d493_7 ?_
  refine lv_goto (tgt := 14) hx hb dJ0_coder_7d493_10 (by decide) ?_
  exact hret H locs _ ls _ rfl rfl hW dJ0_coder_7d493_14
set_option maxHeartbeats 4000000 in
set_option maxRecDepth 100000 in
theorem ct_isLatin1 (l : Launch) (G : EN) {ws : va_W} (sz : Nat) {i : Nat} (hi : i < 8) : CT l yJ0_isLatin1_aae02 cJ0_isLatin1_aae02 1 (some .boolean) rmS0 G sz [.ref (G.2.2.1 i)] ws (QI G (va_A ws sz) 1 ws) := by
  refine CI.intro (lv := [(0, .ref (G.2.2.1 i))]) (by decide) (Nat.le_of_ble_eq_true rfl) rfl ?_
  intro p e s m args below meth c Q B S hret H locs ls hW hl
  have hx := S.1
  have hb := S.2.1
  refine va_gets hx hb hW.2.2.2.2.2.2.1 hW.2.2.2.1 S.2.2.2.1 (S.2.2.2.2 _ lk_J0_38) (fun _ h => h) dJ0_isLatin1_aae02_0 ?_
  refine lv_if_eq (tgt := 17) hx hb dJ0_isLatin1_aae02_3 (by decide) (fun q => absurd q (by decide)) (fun _ => ?_)
  refine lv_aload_n hx hb dJ0_isLatin1_aae02_6 rfl (lv_at hl 0 rfl) ?_
  refine vk_getf hx hb (hW.2.2.2.2.2.1.1 i hi).2.1 hW.2.2.2.1 S.2.2.2.1 (S.2.2.2.2 _ lk_J0_15) (fun _ h => h) dJ0_isLatin1_aae02_7 ?_
  refine lv_if_ne (tgt := 17) hx hb dJ0_isLatin1_aae02_10 (by decide) (fun q => absurd rfl q) (fun _ => ?_)
  refine lv_iconst (v := 1) hx hb dJ0_isLatin1_aae02_13 (by decide) ?_
  refine lv_goto (tgt := 18) hx hb dJ0_isLatin1_aae02_14 (by decide) ?_
  exact hret H locs _ ls _ rfl rfl hW dJ0_isLatin1_aae02_18
set_option maxHeartbeats 4000000 in
set_option maxRecDepth 100000 in
theorem ct_length (l : Launch) (G : EN) {ws : va_W} (sz : Nat) {i : Nat} (hi : i < 8) : CT l yJ0_length_8abf5 cJ0_length_8abf5 1 (some .int) rmS1 G sz [.ref (G.2.2.1 i)] ws (QI G (va_A ws sz) (sln i) ws) := by
  refine CI.intro (lv := [(0, .ref (G.2.2.1 i))]) (by decide) (Nat.le_of_ble_eq_true rfl) rfl ?_
  intro p e s m args below meth c Q B S hret H locs ls hW hl
  have hx := S.1
  have hb := S.2.1
  refine lv_aload_n hx hb dJ0_length_8abf5_0 rfl (lv_at hl 0 rfl) ?_
  refine vk_getf hx hb (hW.2.2.2.2.2.1.1 i hi).2.2.1 hW.2.2.2.1 S.2.2.2.1 (S.2.2.2.2 _ lk_J0_9) (fun _ h => h) dJ0_length_8abf5_1 ?_
  refine x_talen S hW (hW.2.2.2.2.2.1.1 i hi).2.2.2 dJ0_length_8abf5_4 ?_
  refine lv_aload_n hx hb dJ0_length_8abf5_5 rfl (lv_at hl 0 rfl) ?_
  refine back_i (rest := [.int (nI (sLen.getD i 0))]) hW (run_Str S hW hl (ct_coder l G _ hi) mi_coder lk_J0_335 (Nat.le_of_ble_eq_true rfl) dJ0_length_8abf5_6 ⟨Nat.le_of_ble_eq_true rfl, Nat.le_of_ble_eq_true rfl⟩ hi rfl rfl rfl rfl rfl) (fun H locs hW => ?_)
  refine lv_ishr hx hb dJ0_length_8abf5_9 ?_
  exact hret H locs _ ls _ (sb_shr0 _) rfl hW dJ0_length_8abf5_10
set_option maxHeartbeats 4000000 in
set_option maxRecDepth 100000 in
theorem ct_checkIndexP (l : Launch) (G : EN) {ws : va_W} (sz : Nat) {k : Int32} {N : Nat} {v : Value} (hk : vp_in k N) (hN : N < 2 ^ 31) (hv : (lg_sl [.int k, .int (nI N), v]).length ≤ 3) : CT l yJ3_checkIndex_8e157 cJ3_checkIndex_8e157 3 (some .int) rmS0 G sz [.int k, .int (nI N), v] ws (QI G (va_A ws sz) k ws) := by
  refine CI.intro (lv := [(0, .int k), (1, .int (nI N)), (2, v)]) (by decide) hv rfl ?_
  intro p e s m args below meth c Q B S hret H locs ls hW hl
  have hx := S.1
  have hb := S.2.1
  refine lv_iload_n hx hb dJ3_checkIndex_8e157_0 rfl (lv_at hl 0 rfl) ?_
  refine lv_if_lt (tgt := 9) hx hb dJ3_checkIndex_8e157_1 (by decide) (fun q => absurd (Or.inl q) hk) (fun _ => ?_)
  refine lv_iload_n hx hb dJ3_checkIndex_8e157_4 rfl (lv_at hl 0 rfl) ?_
  refine lv_iload_n hx hb dJ3_checkIndex_8e157_5 rfl (lv_at hl 1 rfl) ?_
  have hlt : k < nI N := by
    obtain ⟨j, hj, rfl⟩ := vp_in_of hk hN
    exact nI_lt hj hN
  refine lv_icmp_lt (tgt := 16) hx hb dJ3_checkIndex_8e157_6 (by decide) (fun _ => ?_) (fun q => absurd hlt q)
  refine lv_iload_n hx hb dJ3_checkIndex_8e157_16 rfl (lv_at hl 0 rfl) ?_
  exact hret H locs _ ls _ rfl rfl hW dJ3_checkIndex_8e157_17
set_option maxHeartbeats 4000000 in
set_option maxRecDepth 100000 in
theorem ct_checkIndex (l : Launch) (G : EN) {ws : va_W} (sz : Nat) {k : Int32} {N : Nat} (hk : vp_in k N) (hN : N < 2 ^ 31) : CT l yJ0_checkIndex_df160 cJ0_checkIndex_df160 2 none rmS1 G sz [.int k, .int (nI N)] ws (QV G (va_A ws sz) ws) := by
  refine CV.intro (lv := [(0, .int k), (1, .int (nI N))]) (by decide) (Nat.le_of_ble_eq_true rfl) rfl ?_
  intro p e s m args below meth c Q B S hret H locs ls hW hl
  have hx := S.1
  have hb := S.2.1
  refine lv_iload_n hx hb dJ0_checkIndex_df160_0 rfl (lv_at hl 0 rfl) ?_
  refine lv_iload_n hx hb dJ0_checkIndex_df160_1 rfl (lv_at hl 1 rfl) ?_
  rcases hW.2.2.2.2.2.2.2.1 with hz | ⟨t, hz⟩
  · refine va_gets hx hb hz hW.2.2.2.1 S.2.2.2.1 (S.2.2.2.2 _ lk_J0_1053) (fun _ h => h) dJ0_checkIndex_df160_2 ?_
    refine back_i (rest := []) hW (run_S S hW (ct_checkIndexP l G _ (v := .null) hk hN (Nat.le_of_ble_eq_true rfl)) ms_checkIndexP lk_J0_1059 rfl rfl hl (Nat.le_of_ble_eq_true rfl) dJ0_checkIndex_df160_5 ⟨Nat.le_of_ble_eq_true rfl, Nat.le_of_ble_eq_true rfl⟩ rfl rfl) (fun H locs hW => ?_)
    refine lv_pop hx hb dJ0_checkIndex_df160_8 rfl ?_
    exact hret H locs _ ls hW dJ0_checkIndex_df160_9
  · refine va_gets hx hb hz hW.2.2.2.1 S.2.2.2.1 (S.2.2.2.2 _ lk_J0_1053) (fun _ h => h) dJ0_checkIndex_df160_2 ?_
    refine back_i (rest := []) hW (run_S S hW (ct_checkIndexP l G _ (v := .ref t) hk hN (Nat.le_of_ble_eq_true rfl)) ms_checkIndexP lk_J0_1059 rfl rfl hl (Nat.le_of_ble_eq_true rfl) dJ0_checkIndex_df160_5 ⟨Nat.le_of_ble_eq_true rfl, Nat.le_of_ble_eq_true rfl⟩ rfl rfl) (fun H locs hW => ?_)
    refine lv_pop hx hb dJ0_checkIndex_df160_8 rfl ?_
    exact hret H locs _ ls hW dJ0_checkIndex_df160_9
theorem sLen_le : ∀ i, i < 8 → sLen.getD i 0 < 2 ^ 31 := by decide
set_option maxHeartbeats 4000000 in
set_option maxRecDepth 100000 in
theorem ct_charAt1 (l : Launch) (G : EN) {ws : va_W} (sz : Nat) {i : Nat} {k : Int32} (hi : i < 8) (hk : vp_in k (sLen.getD i 0)) : CT l yJ1_charAt_3b067 cJ1_charAt_3b067 2 (some .char) rmS2 G sz [.ref (G.2.2.2 i), .int k] ws (QI G (va_A ws sz) (sch i k.toNatClampNeg) ws) := by
  refine CI.intro (lv := [(0, .ref (G.2.2.2 i)), (1, .int k)]) (by decide) (Nat.le_of_ble_eq_true rfl) rfl ?_
  intro p e s m args below meth c Q B S hret H locs ls hW hl
  have hx := S.1
  have hb := S.2.1
  refine lv_iload_n hx hb dJ1_charAt_3b067_0 rfl (lv_at hl 1 rfl) ?_
  refine lv_aload_n hx hb dJ1_charAt_3b067_1 rfl (lv_at hl 0 rfl) ?_
  refine x_talen S hW (hW.2.2.2.2.2.1.1 i hi).2.2.2 dJ1_charAt_3b067_2 ?_
  refine back_v (rest := []) hW (run_S S hW (ct_checkIndex l G _ hk (sLen_le i hi)) ms_checkIndex lk_J1_9 rfl rfl hl (Nat.le_of_ble_eq_true rfl) dJ1_charAt_3b067_3 ⟨Nat.le_of_ble_eq_true rfl, Nat.le_of_ble_eq_true rfl⟩ rfl rfl) (fun H locs hW => ?_)
  refine lv_aload_n hx hb dJ1_charAt_3b067_6 rfl (lv_at hl 0 rfl) ?_
  refine lv_iload_n hx hb dJ1_charAt_3b067_7 rfl (lv_at hl 1 rfl) ?_
  refine va_tb hx hb (hW.2.2.2.2.2.1.1 i hi).2.2.2 hW.2.2.2.1 hk (v := .int ((sByt.getD i []).getD k.toNatClampNeg 0)) rfl dJ1_charAt_3b067_8 ?_
  refine lv_sipush (v := 255) hx hb dJ1_charAt_3b067_9 (by decide) ?_
  refine lv_iand hx hb dJ1_charAt_3b067_12 ?_
  refine lv_i2c hx hb dJ1_charAt_3b067_13 (sc_c2 _) ?_
  exact hret H locs _ ls _ rfl (sc_nar _) hW dJ1_charAt_3b067_14
set_option maxHeartbeats 4000000 in
set_option maxRecDepth 100000 in
theorem ct_charAt (l : Launch) (G : EN) {ws : va_W} (sz : Nat) {i : Nat} {k : Int32} (hi : i < 8) (hk : vp_in k (sLen.getD i 0)) : CT l yJ0_charAt_5068e cJ0_charAt_5068e 2 (some .char) rmS3 G sz [.ref (G.2.2.1 i), .int k] ws (QI G (va_A ws sz) (sch i k.toNatClampNeg) ws) := by
  refine CI.intro (lv := [(0, .ref (G.2.2.1 i)), (1, .int k)]) (by decide) (Nat.le_of_ble_eq_true rfl) rfl ?_
  intro p e s m args below meth c Q B S hret H locs ls hW hl
  have hx := S.1
  have hb := S.2.1
  refine lv_aload_n hx hb dJ0_charAt_5068e_0 rfl (lv_at hl 0 rfl) ?_
  refine back_i (rest := []) hW (run_Str S hW hl (ct_isLatin1 l G _ hi) mi_isLatin1 lk_J0_492 (Nat.le_of_ble_eq_true rfl) dJ0_charAt_5068e_1 ⟨Nat.le_of_ble_eq_true rfl, Nat.le_of_ble_eq_true rfl⟩ hi rfl rfl rfl rfl rfl) (fun H locs hW => ?_)
  refine lv_if_eq (tgt := 16) hx hb dJ0_charAt_5068e_4 (by decide) (fun q => absurd q (by decide)) (fun _ => ?_)
  refine lv_aload_n hx hb dJ0_charAt_5068e_7 rfl (lv_at hl 0 rfl) ?_
  refine vk_getf hx hb (hW.2.2.2.2.2.1.1 i hi).2.2.1 hW.2.2.2.1 S.2.2.2.1 (S.2.2.2.2 _ lk_J0_9) (fun _ h => h) dJ0_charAt_5068e_8 ?_
  refine lv_iload_n hx hb dJ0_charAt_5068e_11 rfl (lv_at hl 1 rfl) ?_
  refine back_i (rest := []) hW (run_S S hW (ct_charAt1 l G _ hi hk) ms_charAt1 lk_J0_495 rfl rfl hl (Nat.le_of_ble_eq_true rfl) dJ0_charAt_5068e_12 ⟨Nat.le_of_ble_eq_true rfl, Nat.le_of_ble_eq_true rfl⟩ rfl rfl) (fun H locs hW => ?_)
  exact hret H locs _ ls _ rfl (sc_nar _) hW dJ0_charAt_5068e_15
/-! arraycopy of rows of longs -/
def cp {β : Type} (n0 n1 : Nat) (sp dp n : Int32) (k : Option β) : Option β := if ¬ sp < 0 ∧ ¬ dp < 0 ∧ ¬ n < 0 ∧ sp.toNatClampNeg + n.toNatClampNeg ≤ n0 ∧ dp.toNatClampNeg + n.toNatClampNeg ≤ n1 then k else none
theorem cp_o {β : Type} {n0 n1 : Nat} {sp dp n : Int32} {k : Option β} {r : β} (h : cp n0 n1 sp dp n k = some r) : ¬ sp < 0 ∧ ¬ dp < 0 ∧ ¬ n < 0 ∧ sp.toNatClampNeg + n.toNatClampNeg ≤ n0 ∧ dp.toNatClampNeg + n.toNatClampNeg ≤ n1 ∧ k = some r := by
  unfold cp at h
  split at h
  · next q => exact ⟨q.1, q.2.1, q.2.2.1, q.2.2.2.1, q.2.2.2.2, h⟩
  · cases h
section RC
variable {p : Program} {l : Launch} {e : Env} {R : Room} {s : State} {m : MethodId} {args : Array Value} {below : List Frame} {meth : Method} {c : Code} {H : Heap} {locs : List Loc} {Q : State → Prop}
variable {cc : ByteArray} {pc : Nat} {ls : Array Slot} {rest : List Value} {G : EN} {A : Nat → Prop} {ws ws0 : va_W} {nL : Nat}
theorem x_copyl {q0 q1 a a0 n0 n1 : Nat} {f g : Nat → Int64} {lv : List (Nat × Value)} (S : CallFix p m c cc nL s args GW RX11) (hW : WS G A s ws H locs) (hl : lv_has ls nL lv) (ha0 : ws[q0]? = some (a0, .inl (G.2.1 1, n0, .inr (.inl f)))) (ha1 : ws[q1]? = some (a, .inl (G.2.1 1, n1, .inr (.inl g))))
    {sp dp n : Int32} (hws : ws.set q1 (a, .inl (G.2.1 1, n1, .inr (.inl (va_cpy f g sp.toNatClampNeg dp.toNatClampNeg n.toNatClampNeg)))) = ws0) (hframes : 1 ≤ R.frames) (h1 : ¬ sp < 0) (h2 : ¬ dp < 0) (h3 : ¬ n < 0) (h4 : sp.toNatClampNeg + n.toNatClampNeg ≤ n0) (h5 : dp.toNatClampNeg + n.toNatClampNeg ≤ n1)
    (hlocals : (rest.map fun v => v.category).sum + (nativeFrameWords "java/lang/System" "arraycopy" 5 + 11) ≤ R.locals) (hdg : decode cc pc = .ok (.invokestatic 138, 3))
    (kk : ∀ (H1 : Heap) (locs1 : List Loc), WS G A s ws0 H1 locs1 → W p l e R s m args below meth c H1 locs1 0 0 Q (F0 m (pc + 3) ls rest)) : W p l e R s m args below meth c H locs 0 0 Q (F0 m pc ls (.int n :: .int dp :: .ref a :: .int sp :: .ref a0 :: rest)) := by
  subst hws
  exact va_copyl (ty := .long) S.1 S.2.1 (S.2.2.1.trans hl.1.symm) S.2.2.2.1 (S.2.2.2.2 _ lk_X11_138) (S.2.2.2.2 _ native_22) (S.2.2.2.2 _ static_22) (S.2.2.2.2 _ in_J10) hW.1 hW.2.1 hW.2.2.1 hW.2.2.2.1 q0 q1 1 1 ha0 ha1 rfl rfl rfl h1 h2 h3 h4 h5 (fun _ _ => rfl) hframes hlocals hdg (fun H1 locs1 hP hD hS => kk H1 locs1 ⟨hW.1, hP, hD, hS, hW.2.2.2.2.1, hW.2.2.2.2.2⟩)
end RC
