/-! CONSTRUCTORS: worlds that grow -/
theorem app_split {α : Type} {w1 w2 : List α} {k : Nat} {q : α} (h : (w1 ++ w2)[k]? = some q) : (k < w1.length ∧ w1[k]? = some q) ∨ (w1.length ≤ k ∧ w2[k - w1.length]? = some q) := by
  rcases Nat.lt_or_ge k w1.length with hl | hl
  · rw [List.getElem?_append_left hl] at h
    exact Or.inl ⟨hl, h⟩
  · rw [List.getElem?_append_right hl] at h
    exact Or.inr ⟨hl, h⟩
theorem app_l {α : Type} {w1 w2 : List α} {k : Nat} {q : α} (h : w1[k]? = some q) : (w1 ++ w2)[k]? = some q := by
  rw [List.getElem?_append_left (List.getElem?_eq_some_iff.mp h).1]
  exact h
theorem app_r {α : Type} {w1 w2 : List α} {k : Nat} {q : α} (h : w2[k]? = some q) : (w1 ++ w2)[w1.length + k]? = some q := by
  rw [List.getElem?_append_right (by omega), show w1.length + k - w1.length = k by omega]
  exact h
theorem P_l {D : va_G} {cl : List vw_C} {w1 w2 : va_W} {H : Heap} (h : va_P D cl (w1 ++ w2) H) : va_P D cl w1 H := fun k q hk => h k q (app_l hk)
theorem P_r {D : va_G} {cl : List vw_C} {w1 w2 : va_W} {H : Heap} (h : va_P D cl (w1 ++ w2) H) : va_P D cl w2 H := fun k q hk => h _ q (app_r hk)
theorem D_l {A : Nat → Prop} {w1 w2 : va_W} (h : va_D A (w1 ++ w2)) : va_D A w1 :=
  ⟨fun i j p q hi hj e => h.1 i j p q (app_l hi) (app_l hj) e, fun k q hk => h.2 k q (app_l hk)⟩
theorem D_r {A : Nat → Prop} {w1 w2 : va_W} (h : va_D A (w1 ++ w2)) : va_D A w2 :=
  ⟨fun i j p q hi hj e => by have := h.1 _ _ p q (app_r (w1 := w1) hi) (app_r (w1 := w1) hj) e; omega, fun k q hk => h.2 _ q (app_r hk)⟩
theorem D_x {A : Nat → Prop} {w1 w2 : va_W} (h : va_D A (w1 ++ w2)) (i j : Nat) (p q : Nat × va_E) (hi : w1[i]? = some p) (hj : w2[j]? = some q) : p.1 ≠ q.1 := by
  intro e
  have h1 := h.1 _ _ p q (app_l (w2 := w2) hi) (app_r (w1 := w1) hj) e
  have h2 := (List.getElem?_eq_some_iff.mp hi).1
  omega
theorem WS.swap {G : EN} {A : Nat → Prop} {s : State} {w1 w2 : va_W} {H : Heap} {locs : List Loc} (h : WS G A s (w1 ++ w2) H locs) : WS G A s (w2 ++ w1) H locs :=
  ⟨h.1, va_P.app (P_r h.2.1) (P_l h.2.1), va_D.app (D_r h.2.2.1) (D_l h.2.2.1) (fun i j p q hi hj e => D_x h.2.2.1 j i q p hj hi e.symm), h.2.2.2⟩
theorem WS.left {G : EN} {A : Nat → Prop} {s : State} {w1 w2 : va_W} {H : Heap} {locs : List Loc} (h : WS G A s (w1 ++ w2) H locs) : WS G A s w1 H locs := ⟨h.1, P_l h.2.1, D_l h.2.2.1, h.2.2.2⟩
theorem WS.perm {G : EN} {A : Nat → Prop} {s : State} {ws ws0 : va_W} {H : Heap} {locs : List Loc} (h : WS G A s ws H locs) (ps : List Nat) (hn : va_nd ps = true) (hs : ps.map (fun i => ws[i]?) = ws0.map some) : WS G A s ws0 H locs := by
  have key : ∀ (k : Nat) (q : Nat × va_E), ws0[k]? = some q → ∃ i, ps[k]? = some i ∧ ws[i]? = some q := by
    intro k q hq
    have h1 : (ps.map (fun i => ws[i]?))[k]? = some (some q) := by rw [hs, List.getElem?_map, hq]; rfl
    rw [List.getElem?_map] at h1
    cases hi : ps[k]? with
    | none => rw [hi] at h1; cases h1
    | some i => rw [hi] at h1; exact ⟨i, rfl, Option.some.inj h1⟩
  exact ⟨h.1, fun k q hq => by obtain ⟨i, -, h2⟩ := key k q hq; exact h.2.1 i q h2, h.2.2.1.sub ps hn hs, h.2.2.2⟩
/-- behind a call: what was not the callee's stands beside what came of the callee's -/
theorem WS.joined {G : EN} {A : Nat → Prop} {s : State} {wc wr w1 : va_W} {H H1 : Heap} {locs locs1 : List Loc} (hW : WS G A s (wc ++ wr) H locs) (hk : ∀ q : Nat, q < H.size → ¬ va_A wc H.size q → H1[q]? = H[q]?) (hP1 : va_P G.1 vwCl w1 H1) (hD1 : va_D (va_A wc H.size) w1) (hS1 : va_S A s.heap H1 locs1) : WS G A s (w1 ++ wr) H1 locs1 := by
  have hout : ∀ (j : Nat) (q : Nat × va_E), wr[j]? = some q → q.1 < H.size ∧ ¬ va_A wc H.size q.1 := by
    intro j q hj
    have hl := (P_r hW.2.1 j q hj).lt
    refine ⟨hl, fun h => ?_⟩
    rcases h with ⟨k, e, h⟩ | h
    · exact D_x hW.2.2.1 k j (q.1, e) q h hj rfl
    · omega
  refine ⟨hW.1, va_P.app hP1 (fun k q hq => ?_), va_D.app (hD1.weaken (fun k q _ h => ?_)) (D_r hW.2.2.1) (fun i j p q hi hj e => ?_), hS1, hW.2.2.2.2⟩
  · exact (P_r hW.2.1 k q hq).kept (hk q.1 (hout k q hq).1 (hout k q hq).2)
  · rcases h with ⟨k2, e, h⟩ | h
    · exact (D_l hW.2.2.1).2 k2 (q.1, e) h
    · exact hW.2.2.2.2.1 _ (Nat.le_trans hW.2.2.2.1.1 h)
  · exact (hout j q hj).2 (by rw [← e]; exact hD1.2 i p hi)
theorem PW.of {G : EN} {A : Nat → Prop} {s : State} {wc wr : va_W} {H : Heap} {locs : List Loc} (hW : WS G A s (wc ++ wr) H locs) {U : State} (hU : U.heap = H) (hWm : s.WarmedH U.vm) : PW G H.size wc U :=
  ⟨by rw [hU], by rw [hU]; exact P_l hW.2.1, va_K.moved hWm.alike hW.1, (D_l hW.2.2.1).weaken (fun _ _ _ _ => trivial), hW.2.2.2.2.2.call hW.2.2.2.1 hU hWm (fun q hq => va_free_self (D_l hW.2.2.1) hW.2.2.2.1 hW.2.2.2.2.1 q hq)⟩
abbrev QN (G : EN) (A : Nat → Prop) (w1 : (Nat → Nat) → va_W) : Array Value → State → Outcome → State → Prop := va_Qv (S := Nat → Nat) (fun _ => True) (fun u t => va_P G.1 vwCl (w1 u) t.heap ∧ va_D A (w1 u)) A
/-- what a constructor may rest on beside its world: words that aren't kept as code words are -/
def NX (U : State) : Prop := va_Nw (.methodLinkNest RX11 11 yX0_init "PlanLandmarks") U ∧ va_Nw (.methodLinkNest RX11 72 yX5_init "PlanLandmarks") U ∧ va_Nw (.methodLinkNest RX11 103 yX8_init "PlanLandmarks") U ∧ va_AO "PlanLandmarks$Shelf" U
theorem NX.blind {U : State} (g : JFrame) (mk : MethodId) (a : Array Value) (h : NX U) : NX (U.calling g mk a) :=
  ⟨h.1.same rfl rfl, h.2.1.same rfl rfl, h.2.2.1.same rfl rfl, h.2.2.2.moved (Vm.Alike.refl U.vm)⟩
theorem NX.warm {s U : State} (hW : s.WarmedH U.vm) (h : NX s) : NX U := ⟨h.1.warmM hW, h.2.1.warmM hW, h.2.2.1.warmM hW, h.2.2.2.moved hW.alike⟩
abbrev CN (l : Launch) (y : MethodName) (b : ByteArray) (nL : Nat) (rm : Room) (G : EN) (sz : Nat) (av : List Value) (ws : va_W) (w1 : (Nat → Nat) → va_W) (mc ms : Nat) : Prop :=
  Met l y (.code y b nL none :: GW) rm (va_Pc av (fun U => PW G sz ws U ∧ NX U)) (QN G (va_A ws sz) w1) mc ms (va_A ws sz)
def RtN (p : Program) (l : Launch) (e : Env) (R : Room) (s : State) (m : MethodId) (args : Array Value) (below : List Frame) (meth : Method) (c : Code) (Q : State → Prop) (cc : ByteArray) (G : EN) (A : Nat → Prop) (w1 : (Nat → Nat) → va_W) (mc ms : Nat) : Prop :=
  ∀ (H : Heap) (locs : List Loc) (pc : Nat) (ls : Array Slot) (u : Nat → Nat), WS G A s (w1 u) H locs → decode cc pc = .ok (.return_, 1) → W p l e R s m args below meth c H locs mc ms Q (F0 m pc ls [])
theorem CN.intro {l : Launch} {y : MethodName} {b : ByteArray} {nL : Nat} {rm : Room} {G : EN} {sz : Nat} {av : List Value} {ws : va_W} {w1 : (Nat → Nat) → va_W} {mc ms : Nat} {lv : List (Nat × Value)}
    (hy : plainName y.cls = true) (hyi : y.name = "<init>") (hn : (lg_sl av).length ≤ nL) (hlv : lv_args 0 av = lv)
    (body : ∀ (p : Program) (e : Env) (s : State) (m : MethodId) (args : Array Value) (below : List Frame) (meth : Method) (c : Code) (Q : State → Prop) (A : Nat → Prop), CallFix p m c b nL s args GW y.cls → meth.name = "<init>" → RtN p l e rm s m args below meth c Q b G A w1 mc ms → NX s → ∀ (H : Heap) (locs : List Loc) (ls : Array Slot), WS G A s ws H locs → lv_has ls nL lv → W p l e rm s m args below meth c H locs 0 0 Q (F0 m 0 ls [])) :
    CN l y b nL rm G sz av ws w1 mc ms := by
  refine Met.ofW (cc := b) (maxL := nL) (ret := none) hy rfl ?_
  intro p e s m args below meth c s₁ B hml hv
  obtain ⟨rfl, ⟨hsz, hP, hK, hD0, hX⟩, hNX⟩ := hv
  have hts := atoms_spec (ws := .code y b nL none :: GW) B.pre
  have hl := lv_entry av (n := nL) hn
  rw [lg_entry_eq]
  generalize (lg_sl av ++ List.replicate (nL - (lg_sl av).length) Slot.unset).toArray = ls at hl ⊢
  rw [hlv] at hl
  have hr := B.returns
  have hlk := B.notSynchronized
  have S : CallFix p m c b nL s av.toArray GW y.cls := ⟨B.exec, B.bytes, hml, findClass_of_methodNamed B.named, fun w hw => hts w (List.mem_cons_of_mem _ hw)⟩
  refine body p e s m _ below meth c _ (va_A ws sz) S ((name_of_methodNamed B.named B.method).1.trans hyi) ?_ hNX _ _ ls ⟨hK, hP, hD0.self, va_S.rf, fun q h => Or.inr (by rw [← hsz]; exact h), hX⟩ hl
  intro H locs pc ls u hW0 hdg
  exact W.vret S.1 S.2.1 hr (fun t ht _ => ⟨⟨u, rfl, trivial, by rw [ht]; exact hW0.2.1, hW0.2.2.1⟩, hW0.2.2.2.1.F ht⟩) hW0.2.2.2.1.2.2 hdg hlk
def MN (y : MethodName) (b : ByteArray) (nL : Nat) (n : Nat) : Prop :=
  Cond.instanceMethod y ∈ GW ∧ Cond.initialized y.cls ∈ GW ∧ Cond.code y b nL none ∈ GW ∧ y.name = "<init>" ∧ y.cls ≠ "java/lang/invoke/MethodHandle" ∧ y.cls ≠ "java/lang/invoke/VarHandle" ∧ (parseMethodDescriptor y.desc).map (fun d => d.parameters.length) = some n
section RN
variable {p : Program} {l : Launch} {e : Env} {R : Room} {s : State} {m : MethodId} {args : Array Value} {below : List Frame} {meth : Method} {c : Code} {H : Heap} {locs : List Loc} {cells slots : Nat} {Q : State → Prop}
variable {cc : ByteArray} {pc : Nat} {ls : Array Slot} {rest st0 As : List Value} {G : EN} {A : Nat → Prop} {ws wc wr : va_W} {w1 : (Nat → Nat) → va_W} {nL nLy index a n mc ms : Nat} {own : String} {y : MethodName} {b : ByteArray} {rm : Room} {lv : List (Nat × Value)}
theorem x_super (S : CallFix p m c cc nL s args GW own) (hl : lv_has ls nL lv) (h1 : Cond.methodLink own index objectInit ∈ GW) (hrest : rest = []) (hd : decode cc pc = .ok (.invokespecial index, 3)) (hR : 1 ≤ R.frames ∧ 12 ≤ R.locals)
    (kk : W p l e R s m args below meth c H locs cells slots Q (F0 m (pc + 3) ls rest)) : W p l e R s m args below meth c H locs cells slots Q (F0 m pc ls (.ref a :: rest)) := by
  subst hrest
  exact W.objInit S.1 S.2.1 S.2.2.2.1 (S.2.2.2.2 _ h1) (S.2.2.2.2 _ instanceMethod_22) (S.2.2.2.2 _ co_obj) rfl (by rw [S.2.2.1]; exact hl.1) rfl hd hR.1 (by show 2 * 0 + 0 + 12 ≤ _; omega) kk
theorem ctor_back (hW : WS G A s (wc ++ wr) H locs) {a : Array Value} (hr : va_Run p l e R s m args below meth c H locs cells slots mc ms (F0 m pc ls st0) rest (QN G (va_A wc H.size) w1 a) (va_A wc H.size))
    (kk : ∀ (u : Nat → Nat) (H1 : Heap) (locs1 : List Loc), WS G A s (w1 u ++ wr) H1 locs1 → W p l e R s m args below meth c H1 locs1 (cells + mc) (slots + ms) Q (F0 m (pc + 3) ls rest)) : W p l e R s m args below meth c H locs cells slots Q (F0 m pc ls st0) := by
  have hF := va_free_self (D_l hW.2.2.1) hW.2.2.2.1 hW.2.2.2.2.1
  refine va_callv hr hW.2.2.2.1 (fun q _ h => hF q h) hF (fun u t H1 locs1 ht hvm hp hB hz hk hS => ?_)
  refine kk u H1 locs1 (hW.joined hk ?_ hB.2 hS)
  rw [← ht]
  exact hB.1
theorem run_I (S : CallFix p m c cc nL s args GW own) (hNX : NX s) (hW : WS G A s (wc ++ wr) H locs) (ct : CN l y b nLy rm G H.size (.ref a :: As) wc w1 mc ms) (M : MN y b nLy n) (hlk : Cond.methodLink own index y ∈ GW)
    (hn : As.length = n) (hst : st0 = As.reverse ++ .ref a :: rest) (hl : lv_has ls nL lv) (hro : (rest.map fun v => v.category).sum ≤ 8) (hdg : decode cc pc = .ok (.invokespecial index, 3)) (hR : rm.frames + 1 ≤ R.frames ∧ 8 + (nLy + 11) + rm.locals ≤ R.locals) (hrc : rm.cells = mc) (hrs : rm.slots = ms) (hf : cells + mc ≤ R.cells ∧ slots + ms ≤ R.slots) :
    va_Run p l e R s m args below meth c H locs cells slots mc ms (F0 m pc ls st0) rest (QN G (va_A wc H.size) w1 (Value.ref a :: As).toArray) (va_A wc H.size) := by
  obtain ⟨m1, m3, m4, my, m5, m6, m7⟩ := M
  have hts := S.2.2.2.2
  refine va_runI (As := As) (rest := rest) S ct ⟨callB_of n hts (GW_in m4) rfl hrc hrs (hts _ m3) (hts _ hlk) ⟨m5, m6, m7⟩ hR, my, hts _ m1⟩ ⟨fun a U g mk q => ⟨(PW.blind _ a U g mk ⟨q.1, q.2.1⟩).1, (PW.blind _ a U g mk ⟨q.1, q.2.1⟩).2, q.2.2.blind g mk a⟩, ?_⟩ rfl hn hl.1 hst (lv_room hro) hdg hf
  intro U hU hWm
  exact ⟨rfl, PW.of hW hU hWm, hNX.warm hWm⟩
theorem run_IN {host : String} (S : CallFix p m c cc nL s args GW own) (hNX : NX s) (hW : WS G A s (wc ++ wr) H locs) (ct : CN l y b nLy rm G H.size (.ref a :: As) wc w1 mc ms) (M : MN y b nLy n) (hlk : va_Nw (.methodLinkNest own index y host) s)
    (hn : As.length = n) (hst : st0 = As.reverse ++ .ref a :: rest) (hl : lv_has ls nL lv) (hro : (rest.map fun v => v.category).sum ≤ 8) (hdg : decode cc pc = .ok (.invokespecial index, 3)) (hR : rm.frames + 1 ≤ R.frames ∧ 8 + (nLy + 11) + rm.locals ≤ R.locals) (hrc : rm.cells = mc) (hrs : rm.slots = ms) (hf : cells + mc ≤ R.cells ∧ slots + ms ≤ R.slots) :
    va_Run p l e R s m args below meth c H locs cells slots mc ms (F0 m pc ls st0) rest (QN G (va_A wc H.size) w1 (Value.ref a :: As).toArray) (va_A wc H.size) := by
  obtain ⟨m1, m3, m4, my, m5, m6, m7⟩ := M
  have hts := S.2.2.2.2
  refine va_runIN (As := As) (rest := rest) S ct ⟨va_cnB n hts (GW_in m4) rfl hrc hrs hlk (hts _ m3) ⟨m5, m6, m7⟩ hR, my, hts _ m1⟩ ⟨fun a U g mk q => ⟨(PW.blind _ a U g mk ⟨q.1, q.2.1⟩).1, (PW.blind _ a U g mk ⟨q.1, q.2.1⟩).2, q.2.2.blind g mk a⟩, ?_⟩ rfl hn hl.1 hst (lv_room hro) hdg hf
  intro U hU hWm
  exact ⟨rfl, PW.of hW hU hWm, hNX.warm hWm⟩
theorem x_new {C : String} {T : u_T} {N ci : Nat} {fs : List Value} {ty : Nat → FieldType} (S : CallFix p m c cc nL s args GW own) (hW : WS G A s ws H locs) (h1 : Cond.classLink own index C ∈ GW) (h2 : Cond.instantiable C N ∈ GW) (h3 : Cond.initialized C ∈ GW) (hin : ∀ w ∈ u_ws C T N, w ∈ GW) (hty : ∀ k, k < N → parseFieldDescriptor (T k).2.2.1 = some (ty k)) (hc : vwCl[ci]? = some (C, T, N)) (hfs : ∀ j, j < N → defaultValue (ty j) = vp_V fs j) (hcells : cells + 1 ≤ R.cells) (hslots : slots + N ≤ R.slots) (hd : decode cc pc = .ok (.new index, 3))
    (kk : ∀ (q : Nat) (H1 : Heap), WS G A s (ws ++ [(q, .inr (ci, fs))]) H1 locs → W p l e R s m args below meth c H1 locs (cells + 1) (slots + N) Q (F0 m (pc + 3) ls (.ref q :: rest))) : W p l e R s m args below meth c H locs cells slots Q (F0 m pc ls rest) :=
  va_new S.1 S.2.1 S.2.2.2.2 hin ty hty S.2.2.2.1 (S.2.2.2.2 _ h1) (S.2.2.2.2 _ h2) (S.2.2.2.2 _ h3) hW.1 hW.2.1 hW.2.2.1 hW.2.2.2.1 hW.2.2.2.2.1 hc hfs hcells hslots hd (fun q H1 hP hD hS => kk q H1 ⟨hW.1, hP, hD, hS, hW.2.2.2.2⟩)
theorem K_last {D : va_G} {cl : List vw_C} {tys : List (ClassId × FieldType)} {x : ClassId × FieldType} {U : State} (h : va_K D cl (tys ++ [x]) U) : va_RA U x.1 x.2 := (h.2 tys.length x (by simp)).2
theorem x_newI {n : Int32} {N' : Nat} (S : CallFix p m c cc nL s args GW own) (hW : WS G A s ws H locs) (hn : ¬ n < 0) (hN : n.toNatClampNeg = N') (hbytes : N' * componentBytes .int ≤ 536870912) (hcells : cells + 1 ≤ R.cells) (hslots : slots + N' ≤ R.slots) (hd : decode cc pc = .ok (.newarray .int, 2))
    (kk : ∀ (q : Nat) (H1 : Heap), WS G A s (ws ++ [(q, .inl (G.2.1 0, N', .inl (fun _ => 0)))]) H1 locs → W p l e R s m args below meth c H1 locs (cells + 1) (slots + N') Q (F0 m (pc + 2) ls (.ref q :: rest))) : W p l e R s m args below meth c H locs cells slots Q (F0 m pc ls (.int n :: rest)) := by
  refine va_newa (atype := .int) (ty := .int) (a0 := (N', .inl (fun _ => 0))) S.1 S.2.1 (S.2.2.2.2 _ ac_int) rfl hW.1 hW.2.1 hW.2.2.1 hW.2.2.2.1 hW.2.2.2.2.1 (fun cA => rfl) hn hN hbytes hcells hslots hd (fun q cA H1 hK hP hD hS => ?_)
  have e : cA = G.2.1 0 := Option.some.inj ((K_last hK).symm.trans (hW.1.2 0 _ rfl).2)
  subst e
  exact kk q H1 ⟨hW.1, hP, hD, hS, hW.2.2.2.2⟩
theorem x_newJ {n : Int32} {N' : Nat} (S : CallFix p m c cc nL s args GW own) (hW : WS G A s ws H locs) (hn : ¬ n < 0) (hN : n.toNatClampNeg = N') (hbytes : N' * componentBytes .long ≤ 536870912) (hcells : cells + 1 ≤ R.cells) (hslots : slots + N' ≤ R.slots) (hd : decode cc pc = .ok (.newarray .long, 2))
    (kk : ∀ (q : Nat) (H1 : Heap), WS G A s (ws ++ [(q, .inl (G.2.1 1, N', .inr (.inl (fun _ => 0))))]) H1 locs → W p l e R s m args below meth c H1 locs (cells + 1) (slots + N') Q (F0 m (pc + 2) ls (.ref q :: rest))) : W p l e R s m args below meth c H locs cells slots Q (F0 m pc ls (.int n :: rest)) := by
  refine va_newa (atype := .long) (ty := .long) (a0 := (N', .inr (.inl (fun _ => 0)))) S.1 S.2.1 (S.2.2.2.2 _ ac_long) rfl hW.1 hW.2.1 hW.2.2.1 hW.2.2.2.1 hW.2.2.2.2.1 (fun cA => rfl) hn hN hbytes hcells hslots hd (fun q cA H1 hK hP hD hS => ?_)
  have e : cA = G.2.1 1 := Option.some.inj ((K_last hK).symm.trans (hW.1.2 1 _ rfl).2)
  subst e
  exact kk q H1 ⟨hW.1, hP, hD, hS, hW.2.2.2.2⟩
theorem x_newZ {n : Int32} {N' : Nat} (S : CallFix p m c cc nL s args GW own) (hW : WS G A s ws H locs) (hn : ¬ n < 0) (hN : n.toNatClampNeg = N') (hbytes : N' * componentBytes .boolean ≤ 536870912) (hcells : cells + 1 ≤ R.cells) (hslots : slots + N' ≤ R.slots) (hd : decode cc pc = .ok (.newarray .boolean, 2))
    (kk : ∀ (q : Nat) (H1 : Heap), WS G A s (ws ++ [(q, .inl (G.2.1 2, N', .inl (fun _ => 0)))]) H1 locs → W p l e R s m args below meth c H1 locs (cells + 1) (slots + N') Q (F0 m (pc + 2) ls (.ref q :: rest))) : W p l e R s m args below meth c H locs cells slots Q (F0 m pc ls (.int n :: rest)) := by
  refine va_newa (atype := .boolean) (ty := .boolean) (a0 := (N', .inl (fun _ => 0))) S.1 S.2.1 (S.2.2.2.2 _ ac_boolean) rfl hW.1 hW.2.1 hW.2.2.1 hW.2.2.2.1 hW.2.2.2.2.1 (fun cA => rfl) hn hN hbytes hcells hslots hd (fun q cA H1 hK hP hD hS => ?_)
  have e : cA = G.2.1 2 := Option.some.inj ((K_last hK).symm.trans (hW.1.2 2 _ rfl).2)
  subst e
  exact kk q H1 ⟨hW.1, hP, hD, hS, hW.2.2.2.2⟩
theorem x_newR {n : Int32} {N' : Nat} (S : CallFix p m c cc nL s args GW own) (hNX : NX s) (hW : WS G A s ws H locs) (hcl : Cond.classLink own index "PlanLandmarks$Shelf" ∈ GW) (hn : ¬ n < 0) (hN : n.toNatClampNeg = N') (hbytes : N' * 4 ≤ 536870912) (hcells : cells + 1 ≤ R.cells) (hslots : slots + N' ≤ R.slots) (hd : decode cc pc = .ok (.anewarray index, 3))
    (kk : ∀ (q : Nat) (H1 : Heap), WS G A s (ws ++ [(q, .inl (G.2.1 3, N', .inr (.inr (.inr (.inr (fun _ => none))))))]) H1 locs → W p l e R s m args below meth c H1 locs (cells + 1) (slots + N') Q (F0 m (pc + 3) ls (.ref q :: rest))) : W p l e R s m args below meth c H locs cells slots Q (F0 m pc ls (.int n :: rest)) := by
  refine va_newq S.1 S.2.1 S.2.2.2.1 (S.2.2.2.2 _ hcl) hNX.2.2.2 hW.1 hW.2.1 hW.2.2.1 hW.2.2.2.1 hW.2.2.2.2.1 hn hN hbytes hcells hslots hd (fun q cA H1 hK hP hD hS => ?_)
  obtain ⟨_, _, _, _, _, e1⟩ := K_last hK
  obtain ⟨_, _, _, _, _, e2⟩ := (hW.1.2 3 _ rfl).2
  have e : cA = G.2.1 3 := Option.some.inj (e1.symm.trans e2)
  subst e
  exact kk q H1 ⟨hW.1, hP, hD, hS, hW.2.2.2.2⟩
theorem x_putF {ref C : String} {T : u_T} {N ci index a k : Nat} {fs : List Value} {v : Value} {ty : FieldType} {ws0 : va_W} (S : CallFix p m c cc nL s args GW own) (hin0 : meth.name = "<init>") (hW : WS G A s ws H locs) (q0 : Nat) (he : ws[q0]? = some (a, .inr (ci, fs))) (hc : vwCl[ci]? = some (C, T, N)) (hin : ∀ w ∈ u_ws C T N, w ∈ GW) (ty0 : Nat → FieldType) (hty : ∀ k, k < N → parseFieldDescriptor (T k).2.2.1 = some (ty0 k)) (hnm : ∀ a, a < N → ∀ b, b < N → a ≠ b → (T a).2.1 ≠ (T b).2.1) (hk : k < N) (hlink : Cond.fieldLink own index ref (T k).2.1 (T k).2.2.1 ∈ GW) (href : (T k).1 = ref) (hfin : (T k).2.2.2 = true) (hdecl : (T k).1 = own) (hd : parseFieldDescriptor (T k).2.2.1 = some ty) (hn : narrow ty v = v) (hfit : fits ty v = true) (hl : k < fs.length) (hws : ws.set q0 (a, .inr (ci, fs.set k v)) = ws0) (hdg : decode cc pc = .ok (.putfield index, 3))
    (kk : ∀ (H1 : Heap) (locs1 : List Loc), WS G A s ws0 H1 locs1 → W p l e R s m args below meth c H1 locs1 cells slots Q (F0 m (pc + 3) ls rest)) : W p l e R s m args below meth c H locs cells slots Q (F0 m pc ls (v :: .ref a :: rest)) := by
  subst hws
  exact va_putF S.1 S.2.1 S.2.2.2.2 hin ty0 hty hnm S.2.2.2.1 hW.1 hW.2.1 hW.2.2.1 hW.2.2.2.1 q0 he hc k hk (S.2.2.2.2 _ hlink) (fun _ h => href ▸ h) hfin hin0 hdecl hd hn hfit hl hdg (fun H1 locs1 hP hD hS => kk H1 locs1 ⟨hW.1, hP, hD, hS, hW.2.2.2.2.1, hW.2.2.2.2.2⟩)
theorem x_aast {q0 qk a v n : Nat} {vs : List Value} {f : Nat → Option Nat} {i : Int32} {ws0 : va_W} (S : CallFix p m c cc nL s args GW own) (hW : WS G A s ws H locs) (ha : ws[q0]? = some (a, .inl (G.2.1 3, n, .inr (.inr (.inr (.inr f)))))) (hv : ws[qk]? = some (v, .inr (8, vs))) (hin : vp_in i n) (hws : ws.set q0 (a, .inl (G.2.1 3, n, .inr (.inr (.inr (.inr (va_up f i.toNatClampNeg (some v))))))) = ws0) (hd : decode cc pc = .ok (.aastore, 1))
    (kk : ∀ (H1 : Heap) (locs1 : List Loc), WS G A s ws0 H1 locs1 → W p l e R s m args below meth c H1 locs1 cells slots Q (F0 m (pc + 1) ls rest)) : W p l e R s m args below meth c H locs cells slots Q (F0 m pc ls (.ref v :: .int i :: .ref a :: rest)) := by
  subst hws
  exact va_astq S.1 S.2.1 hW.1 hW.2.1 hW.2.2.1 hW.2.2.2.1 q0 3 qk 8 (r := (RX8, TX8, 3)) ha rfl hv rfl hin hd (fun H1 locs1 hP hD hS => kk H1 locs1 ⟨hW.1, hP, hD, hS, hW.2.2.2.2.1, hW.2.2.2.2.2⟩)
end RN
