/-! THE FRAME: one bundle for the worlds of both sides, contracts in one form, calls, returns -/
abbrev EN : Type := va_G × (Nat → ClassId) × (Nat → Nat) × (Nat → Nat)
def tysW (G : EN) : List (ClassId × FieldType) := [(G.2.1 0, .int), (G.2.1 1, .long), (G.2.1 2, .boolean), (G.2.1 3, .object "PlanLandmarks$Shelf")]
def sLen : List Nat := [5, 4, 3, 3, 6, 5, 4, 4]
def sByt : List (List Int32) := [[115, 116, 97, 114, 116], [103, 111, 97, 108], [110, 111, 119], [97, 99, 116], [115, 116, 97, 114, 116, 32], [103, 111, 97, 108, 32], [110, 111, 119, 32], [97, 99, 116, 32]]
def sRef : List (Nat × String × Nat × String) := [(0, RX9, 57, "start"), (1, RX9, 63, "goal"), (2, RX9, 65, "now"), (3, RX9, 81, "act"), (4, RX12, 124, "start "), (5, RX12, 126, "goal "), (6, RX12, 128, "now "), (7, RX12, 130, "act ")]
/-- the text constants, and what String's own methods read -/
def XS (G : EN) (A : Nat → Prop) (U : State) (H : Heap) : Prop :=
  vk_S 8 sLen sByt G.2.2.1 G.2.2.2 A U H ∧ va_Z "java/lang/String" "COMPACT_STRINGS" "Z" (.int 1) A U H ∧ va_Zq "jdk/internal/util/Preconditions" "SIOOBE_FORMATTER" "Ljava/util/function/BiFunction;" A U H ∧ ∀ q ∈ sRef, vk_R q.2.1 q.2.2.1 q.2.2.2 (G.2.2.1 q.1) U
/-- the world ws stands in the heap H of a method begun at s; what may change is A -/
def WS (G : EN) (A : Nat → Prop) (s : State) (ws : va_W) (H : Heap) (locs : List Loc) : Prop :=
  va_K G.1 vwCl (tysW G) s ∧ va_P G.1 vwCl ws H ∧ va_D A ws ∧ va_S A s.heap H locs ∧ (∀ q, s.heap.size ≤ q → A q) ∧ XS G A s s.heap
def PW (G : EN) (sz : Nat) (ws : va_W) (U : State) : Prop :=
  U.heap.size = sz ∧ va_P G.1 vwCl ws U.heap ∧ va_K G.1 vwCl (tysW G) U ∧ va_D (fun _ => True) ws ∧ XS G (va_A ws sz) U U.heap
theorem XS.blind {G : EN} {A : Nat → Prop} {U : State} {H : Heap} (g : JFrame) (mk : MethodId) (a : Array Value) (h : XS G A U H) : XS G A (U.calling g mk a) H :=
  ⟨h.1.moved (Vm.Alike.refl U.vm), h.2.1.moved (Vm.Alike.refl U.vm), h.2.2.1.moved (Vm.Alike.refl U.vm), fun q hq => vk_R.same (u := U) rfl (h.2.2.2 q hq)⟩
theorem XS.call {G : EN} {A B : Nat → Prop} {s U : State} {H : Heap} {locs : List Loc} (h : XS G A s s.heap) (hS : va_S A s.heap H locs) (hU : U.heap = H) (hW : s.WarmedH U.vm) (hB : ∀ q, B q → A q) : XS G B U U.heap := by
  subst hU
  exact ⟨((h.1.kept hS.2.1).moved hW.alike).narrow hB, ((h.2.1.kept hS.2.1).moved hW.alike).narrow hB, ((h.2.2.1.kept hS.2.1).moved hW.alike).narrow hB, fun q hq => vk_R.warm hW (h.2.2.2 q hq)⟩
theorem PW.blind {G : EN} {sz : Nat} {ws : va_W} (av : List Value) : FrameBlind (va_Pc av (PW G sz ws)) :=
  fun a U g mk q => ⟨q.1, q.2.1, q.2.2.1, va_K.moved (u := U) (U := U.calling g mk a) (Vm.Alike.refl U.vm) q.2.2.2.1, q.2.2.2.2.1, q.2.2.2.2.2.blind g mk a⟩
theorem WS.lit {G : EN} {A : Nat → Prop} {s : State} {ws : va_W} {H : Heap} {locs : List Loc} (hW : WS G A s ws H locs) {q : Nat × String × Nat × String} (hq : q ∈ sRef) : vk_R q.2.1 q.2.2.1 q.2.2.2 (G.2.2.1 q.1) s := hW.2.2.2.2.2.2.2.2 q hq
abbrev CT (l : Launch) (y : MethodName) (b : ByteArray) (nL : Nat) (ret : Option FieldType) (rm : Room) (G : EN) (sz : Nat) (av : List Value) (ws : va_W) (Qx : Array Value → State → Outcome → State → Prop) : Prop :=
  Met l y (.code y b nL ret :: GW) rm (va_Pc av (PW G sz ws)) Qx 0 0 (va_A ws sz)
def BW (G : EN) (A : Nat → Prop) (ws0 : va_W) : Unit → State → Prop := fun _ t => va_P G.1 vwCl ws0 t.heap ∧ va_D A ws0
abbrev QI (G : EN) (A : Nat → Prop) (r0 : Int32) (ws0 : va_W) : Array Value → State → Outcome → State → Prop := va_Qi (S := Unit) (fun r _ => r = r0) (BW G A ws0) A
abbrev QJ (G : EN) (A : Nat → Prop) (r0 : Int64) (ws0 : va_W) : Array Value → State → Outcome → State → Prop := va_Ql (S := Unit) (fun r _ => r = r0) (BW G A ws0) A
abbrev QV (G : EN) (A : Nat → Prop) (ws0 : va_W) : Array Value → State → Outcome → State → Prop := va_Qv (S := Unit) (fun _ => True) (BW G A ws0) A
theorem va_free_self {A : Nat → Prop} {ws : va_W} {H0 H : Heap} {locs : List Loc} (hD : va_D A ws) (hS : va_S A H0 H locs) (hA : ∀ q, H0.size ≤ q → A q) (q : Nat) (h : va_A ws H.size q) : A q := by
  rcases h with ⟨k, e, h⟩ | h
  · exact hD.2 k (q, e) h
  · exact hA q (Nat.le_trans hS.1 h)
section FR
variable {p : Program} {l : Launch} {e : Env} {R : Room} {s : State} {m : MethodId} {args : Array Value} {below : List Frame} {meth : Method} {c : Code} {H : Heap} {locs : List Loc} {cells slots : Nat} {Q : State → Prop}
variable {cc : ByteArray} {pc : Nat} {ls : Array Slot} {rest : List Value} {G : EN} {A : Nat → Prop} {ws ws0 ws1 : va_W} {nL : Nat} {own : String} {sz : Nat}
theorem ret_i {v r0 : Int32} {ty : FieldType} (S : CallFix p m c cc nL s args GW own) (hr : meth.sig.returnType = some ty) (hlk : meth.locks = false) (hn : narrow ty (.int v) = .int v) (hW : WS G A s ws0 H locs) (hdg : decode cc pc = .ok (.ireturn, 1)) (ev : v = r0) :
    W p l e R s m args below meth c H locs 0 0 (MQ below (QI G A r0 ws0) args s 0 0 A) (F0 m pc ls [.int v]) :=
  W.zret (v := v) S.1 S.2.1 hr hn (fun t ht _ => ⟨⟨v, (), rfl, ev, by rw [ht]; exact hW.2.1, hW.2.2.1⟩, hW.2.2.2.1.F ht⟩) hW.2.2.2.1.2.2 hdg hlk
theorem ret_l {v r0 : Int64} (S : CallFix p m c cc nL s args GW own) (hr : meth.sig.returnType = some .long) (hlk : meth.locks = false) (hW : WS G A s ws0 H locs) (hdg : decode cc pc = .ok (.lreturn, 1)) (ev : v = r0) :
    W p l e R s m args below meth c H locs 0 0 (MQ below (QJ G A r0 ws0) args s 0 0 A) (F0 m pc ls [.long v]) :=
  W.lret (v := v) S.1 S.2.1 hr (fun t ht _ => ⟨⟨v, (), rfl, ev, by rw [ht]; exact hW.2.1, hW.2.2.1⟩, hW.2.2.2.1.F ht⟩) hW.2.2.2.1.2.2 hdg hlk
theorem ret_v (S : CallFix p m c cc nL s args GW own) (hr : meth.sig.returnType = none) (hlk : meth.locks = false) (hW : WS G A s ws0 H locs) (hdg : decode cc pc = .ok (.return_, 1)) :
    W p l e R s m args below meth c H locs 0 0 (MQ below (QV G A ws0) args s 0 0 A) (F0 m pc ls []) :=
  W.vret S.1 S.2.1 hr (fun t ht _ => ⟨⟨(), rfl, trivial, by rw [ht]; exact hW.2.1, hW.2.2.1⟩, hW.2.2.2.1.F ht⟩) hW.2.2.2.1.2.2 hdg hlk
/-- the ways out of a method, its goal kept out of sight -/
def RtI (p : Program) (l : Launch) (e : Env) (R : Room) (s : State) (m : MethodId) (args : Array Value) (below : List Frame) (meth : Method) (c : Code) (Q : State → Prop) (cc : ByteArray) (ty : FieldType) (G : EN) (A : Nat → Prop) (r0 : Int32) (ws0 : va_W) : Prop :=
  ∀ (H : Heap) (locs : List Loc) (pc : Nat) (ls : Array Slot) (v : Int32), v = r0 → narrow ty (.int v) = .int v → WS G A s ws0 H locs → decode cc pc = .ok (.ireturn, 1) → W p l e R s m args below meth c H locs 0 0 Q (F0 m pc ls [.int v])
def RtJ (p : Program) (l : Launch) (e : Env) (R : Room) (s : State) (m : MethodId) (args : Array Value) (below : List Frame) (meth : Method) (c : Code) (Q : State → Prop) (cc : ByteArray) (G : EN) (A : Nat → Prop) (r0 : Int64) (ws0 : va_W) : Prop :=
  ∀ (H : Heap) (locs : List Loc) (pc : Nat) (ls : Array Slot) (v : Int64), v = r0 → WS G A s ws0 H locs → decode cc pc = .ok (.lreturn, 1) → W p l e R s m args below meth c H locs 0 0 Q (F0 m pc ls [.long v])
def RtV (p : Program) (l : Launch) (e : Env) (R : Room) (s : State) (m : MethodId) (args : Array Value) (below : List Frame) (meth : Method) (c : Code) (Q : State → Prop) (cc : ByteArray) (G : EN) (A : Nat → Prop) (ws0 : va_W) : Prop :=
  ∀ (H : Heap) (locs : List Loc) (pc : Nat) (ls : Array Slot), WS G A s ws0 H locs → decode cc pc = .ok (.return_, 1) → W p l e R s m args below meth c H locs 0 0 Q (F0 m pc ls [])
theorem GW_good : ∀ w ∈ GW, goodWord w = true := fun w hw => (List.mem_filter.mp hw).2
theorem GW_in {y : MethodName} {b : ByteArray} {n : Nat} {ret : Option FieldType} (h : Cond.code y b n ret ∈ GW) : GoodIn GW (.code y b n ret :: GW) := by
  intro w hw
  rcases List.mem_cons.mp hw with rfl | hw
  · exact ⟨h, good_of_word (GW_good _ h)⟩
  · exact ⟨hw, good_of_word (GW_good _ hw)⟩
def MI (y : MethodName) (b : ByteArray) (nL : Nat) (ret : Option FieldType) (n : Nat) : Prop :=
  Cond.instanceMethod y ∈ GW ∧ Cond.selects y.cls y y ∈ GW ∧ Cond.initialized y.cls ∈ GW ∧ Cond.code y b nL ret ∈ GW ∧ y.cls ≠ "java/lang/invoke/MethodHandle" ∧ y.cls ≠ "java/lang/invoke/VarHandle" ∧ (parseMethodDescriptor y.desc).map (fun d => d.parameters.length) = some n
def MSt (y : MethodName) (b : ByteArray) (nL : Nat) (ret : Option FieldType) (n : Nat) : Prop :=
  Cond.static y ∈ GW ∧ Cond.initialized y.cls ∈ GW ∧ Cond.code y b nL ret ∈ GW ∧ y.cls ≠ "java/lang/invoke/MethodHandle" ∧ y.cls ≠ "java/lang/invoke/VarHandle" ∧ (parseMethodDescriptor y.desc).map (fun d => d.parameters.length) = some n
variable {y : MethodName} {b : ByteArray} {nLy n index a ci q0 : Nat} {ret : Option FieldType} {rm : Room} {As st0 : List Value} {T : u_T} {N : Nat} {fs : List Value} {Qx : Array Value → State → Outcome → State → Prop}
theorem run_V (S : CallFix p m c cc nL s args GW own) (hW : WS G A s ws H locs) (ct : CT l y b nLy ret rm G H.size (.ref a :: As) ws Qx) (M : MI y b nLy ret n) (hlk : Cond.methodLink own index y ∈ GW)
    (he : ws[q0]? = some (a, .inr (ci, fs))) (hc : vwCl[ci]? = some (y.cls, T, N)) (hn : As.length = n) (hst : st0 = As.reverse ++ .ref a :: rest) {lv : List (Nat × Value)} (hl : lv_has ls nL lv) (hro : (rest.map fun v => v.category).sum ≤ 8) (hdg : decode cc pc = .ok (.invokevirtual index, 3)) (hR : rm.frames + 1 ≤ R.frames ∧ 8 + (nLy + 11) + rm.locals ≤ R.locals) (hrc : rm.cells = 0) (hrs : rm.slots = 0) :
    va_Run p l e R s m args below meth c H locs 0 0 0 0 (F0 m pc ls st0) rest (Qx (Value.ref a :: As).toArray) (va_A ws H.size) := by
  obtain ⟨m1, m2, m3, m4, m5, m6, m7⟩ := M
  have hts := S.2.2.2.2
  refine va_runV (C := y.cls) (b := a) (As := As) (rest := rest) S ct ⟨callB_of n hts (GW_in m4) rfl hrc hrs (hts _ m3) (hts _ hlk) ⟨m5, m6, m7⟩ hR, hts _ m1, hts _ m2⟩ ⟨PW.blind _, ?_, ?_⟩ rfl hn hl.1 hst (lv_room hro) hdg ⟨Nat.zero_le _, Nat.zero_le _⟩
  · exact va_recv hW.1 hW.2.1 hc he
  · intro U hU hWm
    exact ⟨rfl, by rw [hU], by rw [hU]; exact hW.2.1, va_K.moved hWm.alike hW.1, hW.2.2.1.weaken (fun _ _ _ _ => trivial), hW.2.2.2.2.2.call hW.2.2.2.1 hU hWm (fun q hq => va_free_self hW.2.2.1 hW.2.2.2.1 hW.2.2.2.2.1 q hq)⟩
theorem run_S (S : CallFix p m c cc nL s args GW own) (hW : WS G A s ws H locs) (ct : CT l y b nLy ret rm G H.size As ws Qx) (M : MSt y b nLy ret n) (hlk : Cond.methodLink own index y ∈ GW)
    (hn : As.length = n) (hst : st0 = As.reverse ++ rest) {lv : List (Nat × Value)} (hl : lv_has ls nL lv) (hro : (rest.map fun v => v.category).sum ≤ 8) (hdg : decode cc pc = .ok (.invokestatic index, 3)) (hR : rm.frames + 1 ≤ R.frames ∧ 8 + (nLy + 11) + rm.locals ≤ R.locals) (hrc : rm.cells = 0) (hrs : rm.slots = 0) :
    va_Run p l e R s m args below meth c H locs 0 0 0 0 (F0 m pc ls st0) rest (Qx As.toArray) (va_A ws H.size) := by
  obtain ⟨m1, m3, m4, m5, m6, m7⟩ := M
  have hts := S.2.2.2.2
  refine va_runS (As := As) (rest := rest) S ct ⟨callB_of n hts (GW_in m4) rfl hrc hrs (hts _ m3) (hts _ hlk) ⟨m5, m6, m7⟩ hR, hts _ m1⟩ ⟨PW.blind _, ?_⟩ rfl hn hl.1 hst (lv_room hro) hdg ⟨Nat.zero_le _, Nat.zero_le _⟩
  intro U hU hWm
  exact ⟨rfl, by rw [hU], by rw [hU]; exact hW.2.1, va_K.moved hWm.alike hW.1, hW.2.2.1.weaken (fun _ _ _ _ => trivial), hW.2.2.2.2.2.call hW.2.2.2.1 hU hWm (fun q hq => va_free_self hW.2.2.1 hW.2.2.2.1 hW.2.2.2.2.1 q hq)⟩
theorem WS.back {t : State} {H1 : Heap} {locs1 : List Loc} (hW : WS G A s ws H locs) (ht : t.heap = H1) (hB : BW G (va_A ws H.size) ws0 () t) (hS : va_S A s.heap H1 locs1) : WS G A s ws0 H1 locs1 :=
  ⟨hW.1, by rw [← ht]; exact hB.1, hB.2.weaken (fun _ q _ h => va_free_self hW.2.2.1 hW.2.2.2.1 hW.2.2.2.2.1 q.1 h), hS, hW.2.2.2.2.1, hW.2.2.2.2.2⟩
theorem back_i {r0 : Int32} {a : Array Value} (hW : WS G A s ws H locs) (hr : va_Run p l e R s m args below meth c H locs 0 0 0 0 (F0 m pc ls st0) rest (QI G (va_A ws H.size) r0 ws0 a) (va_A ws H.size))
    (kk : ∀ (H1 : Heap) (locs1 : List Loc), WS G A s ws0 H1 locs1 → W p l e R s m args below meth c H1 locs1 0 0 Q (F0 m (pc + 3) ls (.int r0 :: rest))) : W p l e R s m args below meth c H locs 0 0 Q (F0 m pc ls st0) := by
  have hF := va_free_self hW.2.2.1 hW.2.2.2.1 hW.2.2.2.2.1
  refine va_calli hr hW.2.2.2.1 (fun q _ h => hF q h) hF (fun r u t H1 locs1 ht hvm hp hB hz hk hS => ?_)
  subst hp
  exact kk H1 locs1 (hW.back ht hB hS)
theorem back_l {r0 : Int64} {a : Array Value} (hW : WS G A s ws H locs) (hr : va_Run p l e R s m args below meth c H locs 0 0 0 0 (F0 m pc ls st0) rest (QJ G (va_A ws H.size) r0 ws0 a) (va_A ws H.size))
    (kk : ∀ (H1 : Heap) (locs1 : List Loc), WS G A s ws0 H1 locs1 → W p l e R s m args below meth c H1 locs1 0 0 Q (F0 m (pc + 3) ls (.long r0 :: rest))) : W p l e R s m args below meth c H locs 0 0 Q (F0 m pc ls st0) := by
  have hF := va_free_self hW.2.2.1 hW.2.2.2.1 hW.2.2.2.2.1
  refine va_calll hr hW.2.2.2.1 (fun q _ h => hF q h) hF (fun r u t H1 locs1 ht hvm hp hB hz hk hS => ?_)
  subst hp
  exact kk H1 locs1 (hW.back ht hB hS)
theorem back_v {a : Array Value} (hW : WS G A s ws H locs) (hr : va_Run p l e R s m args below meth c H locs 0 0 0 0 (F0 m pc ls st0) rest (QV G (va_A ws H.size) ws0 a) (va_A ws H.size))
    (kk : ∀ (H1 : Heap) (locs1 : List Loc), WS G A s ws0 H1 locs1 → W p l e R s m args below meth c H1 locs1 0 0 Q (F0 m (pc + 3) ls rest)) : W p l e R s m args below meth c H locs 0 0 Q (F0 m pc ls st0) := by
  have hF := va_free_self hW.2.2.1 hW.2.2.2.1 hW.2.2.2.2.1
  refine va_callv hr hW.2.2.2.1 (fun q _ h => hF q h) hF (fun u t H1 locs1 ht hvm hp hB hz hk hS => ?_)
  exact kk H1 locs1 (hW.back ht hB hS)
theorem x_get {ref C : String} {k : Nat} {v : Value} (S : CallFix p m c cc nL s args GW own) (hW : WS G A s ws H locs) (q0 : Nat) (he : ws[q0]? = some (a, .inr (ci, fs))) (hc : vwCl[ci]? = some (C, T, N)) (hin : ∀ w ∈ u_ws C T N, w ∈ GW) (hk : k < N) (hlink : Cond.fieldLink own index ref (T k).2.1 (T k).2.2.1 ∈ GW) (href : (T k).1 = ref) (hv : fs[k]? = some v) (hdg : decode cc pc = .ok (.getfield index, 3))
    (kk : W p l e R s m args below meth c H locs cells slots Q (F0 m (pc + 3) ls (v :: rest))) : W p l e R s m args below meth c H locs cells slots Q (F0 m pc ls (.ref a :: rest)) :=
  va_get S.1 S.2.1 S.2.2.2.2 hin S.2.2.2.1 hW.1 hW.2.1 q0 he hc k hk (S.2.2.2.2 _ hlink) (fun _ h => href ▸ h) hv hdg kk
theorem x_put {ref C : String} {k : Nat} {v : Value} {ty : FieldType} (S : CallFix p m c cc nL s args GW own) (hW : WS G A s ws H locs) (q0 : Nat) (he : ws[q0]? = some (a, .inr (ci, fs))) (hc : vwCl[ci]? = some (C, T, N)) (hin : ∀ w ∈ u_ws C T N, w ∈ GW) (ty0 : Nat → FieldType) (hty : ∀ k, k < N → parseFieldDescriptor (T k).2.2.1 = some (ty0 k)) (hnm : ∀ a, a < N → ∀ b, b < N → a ≠ b → (T a).2.1 ≠ (T b).2.1) (hk : k < N) (hlink : Cond.fieldLink own index ref (T k).2.1 (T k).2.2.1 ∈ GW) (href : (T k).1 = ref) (hfin : (T k).2.2.2 = false) (hd : parseFieldDescriptor (T k).2.2.1 = some ty) (hn : narrow ty v = v) (hfit : fits ty v = true) (hl : k < fs.length) (hws : ws.set q0 (a, .inr (ci, fs.set k v)) = ws0) (hdg : decode cc pc = .ok (.putfield index, 3))
    (kk : ∀ (H1 : Heap) (locs1 : List Loc), WS G A s ws0 H1 locs1 → W p l e R s m args below meth c H1 locs1 cells slots Q (F0 m (pc + 3) ls rest)) : W p l e R s m args below meth c H locs cells slots Q (F0 m pc ls (v :: .ref a :: rest)) := by
  subst hws
  exact va_put S.1 S.2.1 S.2.2.2.2 hin ty0 hty hnm S.2.2.2.1 hW.1 hW.2.1 hW.2.2.1 hW.2.2.2.1 q0 he hc k hk (S.2.2.2.2 _ hlink) (fun _ h => href ▸ h) hfin hd hn hfit hl hdg (fun H1 locs1 hP hD hS => kk H1 locs1 ⟨hW.1, hP, hD, hS, hW.2.2.2.2.1, hW.2.2.2.2.2⟩)
theorem x_iald {k n : Nat} {f : Nat → Int32} {i : Int32} (S : CallFix p m c cc nL s args GW own) (hW : WS G A s ws H locs) (q0 : Nat) (ha : ws[q0]? = some (a, .inl (G.2.1 0, n, .inl f))) (hin : vp_in i n) (hdg : decode cc pc = .ok (.iaload, 1))
    (kk : W p l e R s m args below meth c H locs cells slots Q (F0 m (pc + 1) ls (.int (f i.toNatClampNeg) :: rest))) : W p l e R s m args below meth c H locs cells slots Q (F0 m pc ls (.int i :: .ref a :: rest)) :=
  va_iald S.1 S.2.1 hW.1 hW.2.1 q0 0 ha rfl hin hdg kk
theorem x_zald {k n : Nat} {f : Nat → Int32} {i : Int32} (S : CallFix p m c cc nL s args GW own) (hW : WS G A s ws H locs) (q0 : Nat) (ha : ws[q0]? = some (a, .inl (G.2.1 2, n, .inl f))) (hin : vp_in i n) (hdg : decode cc pc = .ok (.baload, 1))
    (kk : W p l e R s m args below meth c H locs cells slots Q (F0 m (pc + 1) ls (.int (f i.toNatClampNeg) :: rest))) : W p l e R s m args below meth c H locs cells slots Q (F0 m pc ls (.int i :: .ref a :: rest)) :=
  va_zald S.1 S.2.1 hW.1 hW.2.1 q0 2 ha rfl hin hdg kk
theorem x_lald {k n : Nat} {f : Nat → Int64} {i : Int32} (S : CallFix p m c cc nL s args GW own) (hW : WS G A s ws H locs) (q0 : Nat) (ha : ws[q0]? = some (a, .inl (G.2.1 1, n, .inr (.inl f)))) (hin : vp_in i n) (hdg : decode cc pc = .ok (.laload, 1))
    (kk : W p l e R s m args below meth c H locs cells slots Q (F0 m (pc + 1) ls (.long (f i.toNatClampNeg) :: rest))) : W p l e R s m args below meth c H locs cells slots Q (F0 m pc ls (.int i :: .ref a :: rest)) :=
  va_lald S.1 S.2.1 hW.1 hW.2.1 q0 1 ha rfl hin hdg kk
theorem x_aald {n : Nat} {f : Nat → Option Nat} {i : Int32} (S : CallFix p m c cc nL s args GW own) (hW : WS G A s ws H locs) (q0 : Nat) (ha : ws[q0]? = some (a, .inl (G.2.1 3, n, .inr (.inr (.inr (.inr f)))))) (hin : vp_in i n) (hdg : decode cc pc = .ok (.aaload, 1))
    (kk : W p l e R s m args below meth c H locs cells slots Q (F0 m (pc + 1) ls (va_rf (f i.toNatClampNeg) :: rest))) : W p l e R s m args below meth c H locs cells slots Q (F0 m pc ls (.int i :: .ref a :: rest)) :=
  va_aldq (C := "PlanLandmarks$Shelf") S.1 S.2.1 hW.1 hW.2.1 q0 3 ha rfl hin hdg kk
theorem x_iast {n : Nat} {f : Nat → Int32} {i x : Int32} (S : CallFix p m c cc nL s args GW own) (hW : WS G A s ws H locs) (q0 : Nat) (ha : ws[q0]? = some (a, .inl (G.2.1 0, n, .inl f))) (hin : vp_in i n) (hws : ws.set q0 (a, .inl (G.2.1 0, n, .inl (upd f i.toNatClampNeg x))) = ws0) (hdg : decode cc pc = .ok (.iastore, 1))
    (kk : ∀ (H1 : Heap) (locs1 : List Loc), WS G A s ws0 H1 locs1 → W p l e R s m args below meth c H1 locs1 cells slots Q (F0 m (pc + 1) ls rest)) : W p l e R s m args below meth c H locs cells slots Q (F0 m pc ls (.int x :: .int i :: .ref a :: rest)) := by
  subst hws
  exact va_iast S.1 S.2.1 hW.1 hW.2.1 hW.2.2.1 hW.2.2.2.1 q0 0 ha rfl hin hdg (fun H1 locs1 hP hD hS => kk H1 locs1 ⟨hW.1, hP, hD, hS, hW.2.2.2.2.1, hW.2.2.2.2.2⟩)
theorem x_zast {n : Nat} {f : Nat → Int32} {i x : Int32} (S : CallFix p m c cc nL s args GW own) (hW : WS G A s ws H locs) (q0 : Nat) (ha : ws[q0]? = some (a, .inl (G.2.1 2, n, .inl f))) (hin : vp_in i n) (hws : ws.set q0 (a, .inl (G.2.1 2, n, .inl (upd f i.toNatClampNeg (vp_nar .boolean x)))) = ws0) (hdg : decode cc pc = .ok (.bastore, 1))
    (kk : ∀ (H1 : Heap) (locs1 : List Loc), WS G A s ws0 H1 locs1 → W p l e R s m args below meth c H1 locs1 cells slots Q (F0 m (pc + 1) ls rest)) : W p l e R s m args below meth c H locs cells slots Q (F0 m pc ls (.int x :: .int i :: .ref a :: rest)) := by
  subst hws
  exact va_zast S.1 S.2.1 hW.1 hW.2.1 hW.2.2.1 hW.2.2.2.1 q0 2 ha rfl hin hdg (fun H1 locs1 hP hD hS => kk H1 locs1 ⟨hW.1, hP, hD, hS, hW.2.2.2.2.1, hW.2.2.2.2.2⟩)
theorem x_last {n : Nat} {f : Nat → Int64} {i : Int32} {x : Int64} (S : CallFix p m c cc nL s args GW own) (hW : WS G A s ws H locs) (q0 : Nat) (ha : ws[q0]? = some (a, .inl (G.2.1 1, n, .inr (.inl f)))) (hin : vp_in i n) (hws : ws.set q0 (a, .inl (G.2.1 1, n, .inr (.inl (vp_updL f i.toNatClampNeg x)))) = ws0) (hdg : decode cc pc = .ok (.lastore, 1))
    (kk : ∀ (H1 : Heap) (locs1 : List Loc), WS G A s ws0 H1 locs1 → W p l e R s m args below meth c H1 locs1 cells slots Q (F0 m (pc + 1) ls rest)) : W p l e R s m args below meth c H locs cells slots Q (F0 m pc ls (.long x :: .int i :: .ref a :: rest)) := by
  subst hws
  exact va_last S.1 S.2.1 hW.1 hW.2.1 hW.2.2.1 hW.2.2.2.1 q0 1 ha rfl hin hdg (fun H1 locs1 hP hD hS => kk H1 locs1 ⟨hW.1, hP, hD, hS, hW.2.2.2.2.1, hW.2.2.2.2.2⟩)
end FR
theorem CT.intro0 {l : Launch} {y : MethodName} {b : ByteArray} {nL : Nat} {ret : Option FieldType} {rm : Room} {G : EN} {sz : Nat} {av : List Value} {ws : va_W} {Qx : Array Value → State → Outcome → State → Prop} {lv : List (Nat × Value)}
    (hy : plainName y.cls = true) (hn : (lg_sl av).length ≤ nL) (hlv : lv_args 0 av = lv)
    (body : ∀ (p : Program) (e : Env) (s : State) (m : MethodId) (below : List Frame) (meth : Method) (c : Code), CallFix p m c b nL s av.toArray GW y.cls → meth.sig.returnType = ret → meth.locks = false → s.heap.size = sz → WS G (va_A ws sz) s ws s.heap [] → ∀ ls : Array Slot, lv_has ls nL lv → W p l e rm s m av.toArray below meth c s.heap [] 0 0 (MQ below Qx av.toArray s 0 0 (va_A ws sz)) (F0 m 0 ls [])) :
    CT l y b nL ret rm G sz av ws Qx := by
  refine Met.ofW (cc := b) (maxL := nL) (ret := ret) hy rfl ?_
  intro p e s m args below meth c s₁ B hml hv
  obtain ⟨rfl, hsz, hP, hK, hD0, hX⟩ := hv
  have hts := atoms_spec (ws := .code y b nL ret :: GW) B.pre
  have hl := lv_entry av (n := nL) hn
  rw [lg_entry_eq]
  generalize (lg_sl av ++ List.replicate (nL - (lg_sl av).length) Slot.unset).toArray = ls at hl ⊢
  rw [hlv] at hl
  exact body p e s m below meth c ⟨B.exec, B.bytes, hml, findClass_of_methodNamed B.named, fun w hw => hts w (List.mem_cons_of_mem _ hw)⟩ B.returns B.notSynchronized hsz ⟨hK, hP, hD0.self, va_S.rf, fun q h => Or.inr (by rw [← hsz]; exact h), hX⟩ ls hl
theorem CI.intro {l : Launch} {y : MethodName} {b : ByteArray} {nL : Nat} {ty : FieldType} {rm : Room} {G : EN} {sz : Nat} {av : List Value} {ws ws0 : va_W} {r0 : Int32} {lv : List (Nat × Value)}
    (hy : plainName y.cls = true) (hn : (lg_sl av).length ≤ nL) (hlv : lv_args 0 av = lv)
    (body : ∀ (p : Program) (e : Env) (s : State) (m : MethodId) (args : Array Value) (below : List Frame) (meth : Method) (c : Code) (Q : State → Prop) (A : Nat → Prop), CallFix p m c b nL s args GW y.cls → RtI p l e rm s m args below meth c Q b ty G A r0 ws0 → ∀ (H : Heap) (locs : List Loc) (ls : Array Slot), WS G A s ws H locs → lv_has ls nL lv → W p l e rm s m args below meth c H locs 0 0 Q (F0 m 0 ls [])) :
    CT l y b nL (some ty) rm G sz av ws (QI G (va_A ws sz) r0 ws0) := by
  refine CT.intro0 hy hn hlv ?_
  intro p e s m below meth c S hr hlk hsz hW ls hl
  refine body p e s m _ below meth c _ (va_A ws sz) S ?_ _ _ ls hW hl
  intro H locs pc ls v hv hn hW0 hdg
  exact ret_i S hr hlk hn hW0 hdg hv
theorem CJ.intro {l : Launch} {y : MethodName} {b : ByteArray} {nL : Nat} {rm : Room} {G : EN} {sz : Nat} {av : List Value} {ws ws0 : va_W} {r0 : Int64} {lv : List (Nat × Value)}
    (hy : plainName y.cls = true) (hn : (lg_sl av).length ≤ nL) (hlv : lv_args 0 av = lv)
    (body : ∀ (p : Program) (e : Env) (s : State) (m : MethodId) (args : Array Value) (below : List Frame) (meth : Method) (c : Code) (Q : State → Prop) (A : Nat → Prop), CallFix p m c b nL s args GW y.cls → RtJ p l e rm s m args below meth c Q b G A r0 ws0 → ∀ (H : Heap) (locs : List Loc) (ls : Array Slot), WS G A s ws H locs → lv_has ls nL lv → W p l e rm s m args below meth c H locs 0 0 Q (F0 m 0 ls [])) :
    CT l y b nL (some .long) rm G sz av ws (QJ G (va_A ws sz) r0 ws0) := by
  refine CT.intro0 hy hn hlv ?_
  intro p e s m below meth c S hr hlk hsz hW ls hl
  refine body p e s m _ below meth c _ (va_A ws sz) S ?_ _ _ ls hW hl
  intro H locs pc ls v hv hW0 hdg
  exact ret_l S hr hlk hW0 hdg hv
theorem CV.intro {l : Launch} {y : MethodName} {b : ByteArray} {nL : Nat} {rm : Room} {G : EN} {sz : Nat} {av : List Value} {ws ws0 : va_W} {lv : List (Nat × Value)}
    (hy : plainName y.cls = true) (hn : (lg_sl av).length ≤ nL) (hlv : lv_args 0 av = lv)
    (body : ∀ (p : Program) (e : Env) (s : State) (m : MethodId) (args : Array Value) (below : List Frame) (meth : Method) (c : Code) (Q : State → Prop) (A : Nat → Prop), CallFix p m c b nL s args GW y.cls → RtV p l e rm s m args below meth c Q b G A ws0 → ∀ (H : Heap) (locs : List Loc) (ls : Array Slot), WS G A s ws H locs → lv_has ls nL lv → W p l e rm s m args below meth c H locs 0 0 Q (F0 m 0 ls [])) :
    CT l y b nL none rm G sz av ws (QV G (va_A ws sz) ws0) := by
  refine CT.intro0 hy hn hlv ?_
  intro p e s m below meth c S hr hlk hsz hW ls hl
  refine body p e s m _ below meth c _ (va_A ws sz) S ?_ _ _ ls hW hl
  intro H locs pc ls hW0 hdg
  exact ret_v S hr hlk hW0 hdg
/-! the pure words that the class's own functions are written in -/
def gin (i : Int32) (n : Nat) : Bool := decide (0 ≤ i.toInt) && decide (i.toInt < n)
theorem gin_in {i : Int32} {n : Nat} : gin i n = true ↔ vp_in i n := by
  rw [vp_in_iff]; simp [gin]
def ld {α β : Type} (f : Nat → α) (n : Nat) (i : Int32) (k : α → Option β) : Option β := if gin i n = true then k (f i.toNatClampNeg) else none
def ck {β : Type} (n : Nat) (i : Int32) (k : Option β) : Option β := if gin i n = true then k else none
def lt {α β : Type} (x : α) (k : α → β) : β := k x
def jn {α β : Type} (J : α) (B : α → β) : β := B J
def bd {α β : Type} (x : Option α) (k : α → Option β) : Option β := match x with
  | none => none
  | some a => k a
def bd2 {α γ β : Type} (x : Option (α × γ)) (k : α → γ → Option β) : Option β := match x with
  | none => none
  | some a => k a.1 a.2
def dv {β : Type} (y : Int32) (k : Option β) : Option β := if y = 0 then none else k
def zb {β : Type} (v : Int32) (k : Option β) : Option β := if v = 0 ∨ v = 1 then k else none
theorem ld_o {α β : Type} {f : Nat → α} {n : Nat} {i : Int32} {k : α → Option β} {r : β} (h : ld f n i k = some r) : vp_in i n ∧ ∃ z, z = f i.toNatClampNeg ∧ k z = some r := by
  unfold ld at h
  split at h
  · next q => exact ⟨gin_in.mp q, _, rfl, h⟩
  · cases h
theorem ck_o {β : Type} {n : Nat} {i : Int32} {k : Option β} {r : β} (h : ck n i k = some r) : vp_in i n ∧ k = some r := by
  unfold ck at h
  split at h
  · next q => exact ⟨gin_in.mp q, h⟩
  · cases h
theorem lt_o {α β : Type} {x : α} {k : α → β} {r : β} (h : lt x k = r) : ∃ z, z = x ∧ k z = r := ⟨x, rfl, h⟩
theorem jn_o {α β : Type} {J : α} {B : α → β} {r : β} (h : jn J B = r) : ∃ z, z = J ∧ B z = r := ⟨J, rfl, h⟩
theorem bd_o {α β : Type} {x : Option α} {k : α → Option β} {r : β} (h : bd x k = some r) : ∃ z, x = some z ∧ k z = some r := by
  cases x with
  | none => cases h
  | some a => exact ⟨a, rfl, h⟩
theorem bd2_o {α γ β : Type} {x : Option (α × γ)} {k : α → γ → Option β} {r : β} (h : bd2 x k = some r) : ∃ z w, x = some (z, w) ∧ k z w = some r := by
  cases x with
  | none => cases h
  | some a => exact ⟨a.1, a.2, rfl, h⟩
theorem dv_o {β : Type} {y : Int32} {k : Option β} {r : β} (h : dv y k = some r) : ¬ y = 0 ∧ k = some r := by
  unfold dv at h
  split at h
  · cases h
  · next q => exact ⟨q, h⟩
theorem zb_o {β : Type} {v : Int32} {k : Option β} {r : β} (h : zb v k = some r) : (v = 0 ∨ v = 1) ∧ k = some r := by
  unfold zb at h
  split at h
  · next q => exact ⟨q, h⟩
  · cases h
theorem nar_z {v : Int32} (h : v = 0 ∨ v = 1) : narrow .boolean (.int v) = .int v := by rcases h with rfl | rfl <;> rfl
theorem fits_z {v : Int32} (h : v = 0 ∨ v = 1) : fits .boolean (.int v) = true := by rcases h with rfl | rfl <;> rfl
