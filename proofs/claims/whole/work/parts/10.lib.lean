/-! WRAPPERS: one shape of contract for all methods that make no cell -/
def ws_ (y : MethodName) (cc : ByteArray) (n : Nat) (r : Option FieldType) : List Cond := .code y cc n r :: wsL_law
theorem ws_good : wsL_law.all goodWord = true := by decide +kernel
theorem good_ws {y : MethodName} {cc : ByteArray} {n : Nat} {r : Option FieldType} (h : Cond.code y cc n r ∈ wsL_law) : GoodIn wsL_law (ws_ y cc n r) := by
  intro w hw
  have h1 : w ∈ wsL_law := by
    rcases List.mem_cons.mp hw with e | e
    · rw [e]; exact h
    · exact e
  exact ⟨h1, good_of_word (List.all_eq_true.mp ws_good w h1)⟩
theorem ks_warm {s U : State} (hW : s.WarmedH U.vm) (h : ks_N s) : ks_N U := ⟨fun q hq => va_Nw.warmF hW (h.1 q hq), fun q hq => va_Nw.warmM hW (h.2 q hq)⟩
theorem ks_same {u U : State} (e : u.vm = U.vm) (h : ks_N u) : ks_N U := ⟨fun q hq => va_Nw.same rfl e (h.1 q hq), fun q hq => va_Nw.same rfl e (h.2 q hq)⟩
abbrev kTY (cI cC cZ : ClassId) : List (ClassId × FieldType) := [(cI, .int), (cC, .char), (cZ, .boolean)]
/-- the table of factorials, a static row that nobody writes -/
def kfac (j : Nat) : Int32 := match j with | 0 => 1 | 1 => 1 | 2 => 2 | 3 => 6 | 4 => 24 | 5 => 120 | 6 => 720 | 7 => 5040 | _ => 40320
def kF (A : Nat → Prop) (U : State) (H : Heap) : Prop := ∃ t : Nat, va_Z "LampShares" "FACTORIALS" "[I" (.ref t) A U H ∧ va_T .int t 9 (fun j => .int (kfac j)) A U H
theorem kF.to {A B : Nat → Prop} {u U : State} {H H1 : Heap} (h : kF A u H) (hvm : u.vm.Alike U.vm) (hq : ∀ a : Nat, a < H.size → ¬ A a → H1[a]? = H[a]?) (hAB : ∀ q, B q → A q) : kF B U H1 := by
  obtain ⟨t, h1, h2⟩ := h
  exact ⟨t, va_Z.narrow (va_Z.kept (va_Z.moved hvm h1) hq) hAB, va_T.narrow (va_T.kept (va_T.moved hvm h2) hq) hAB⟩
def kPre (D : va_G) (T : List (ClassId × FieldType)) (ws : va_W) (sz : Nat) (U : State) : Prop := U.heap.size = sz ∧ va_P D vwCl ws U.heap ∧ va_K D vwCl T U ∧ va_D (fun _ => True) ws ∧ ks_N U ∧ kF (va_A ws sz) U U.heap
def kPost (D : va_G) (T : List (ClassId × FieldType)) (ws' : va_W) (A : Nat → Prop) (t : State) : Prop := va_P D vwCl ws' t.heap ∧ va_K D vwCl T t ∧ va_D A ws'
abbrev kQI (D : va_G) (T : List (ClassId × FieldType)) (A : Nat → Prop) (r : Int32) (ws' : va_W) : Array Value → State → Outcome → State → Prop := va_Qi (fun (r' : Int32) (_ : Unit) => r' = r) (fun _ t => kPost D T ws' A t) A
abbrev kQL (D : va_G) (T : List (ClassId × FieldType)) (A : Nat → Prop) (r : Int64) (ws' : va_W) : Array Value → State → Outcome → State → Prop := va_Ql (fun (r' : Int64) (_ : Unit) => r' = r) (fun _ t => kPost D T ws' A t) A
abbrev kQV (D : va_G) (T : List (ClassId × FieldType)) (A : Nat → Prop) (ws' : va_W) : Array Value → State → Outcome → State → Prop := va_Qv (fun (_ : Unit) => True) (fun _ t => kPost D T ws' A t) A
abbrev kQR (D : va_G) (T : List (ClassId × FieldType)) (A : Nat → Prop) (r : Nat) (ws' : va_W) : Array Value → State → Outcome → State → Prop := va_Qr (fun (_ : Unit) => True) (fun _ a t => a = r ∧ kPost D T ws' A t) A
abbrev kMet (l : Launch) (y : MethodName) (cc : ByteArray) (n : Nat) (ret : Option FieldType) (rm : Room) (D : va_G) (T : List (ClassId × FieldType)) (As : List Value) (ws : va_W) (sz : Nat) (Q : Array Value → State → Outcome → State → Prop) : Prop := Met l y (ws_ y cc n ret) rm (va_Pc As (kPre D T ws sz)) Q 0 0 (va_A ws sz)
theorem kPre_blind {As : List Value} {D : va_G} {T : List (ClassId × FieldType)} {ws : va_W} {sz : Nat} : FrameBlind (va_Pc As (kPre D T ws sz)) := by
  intro a U g mk q
  obtain ⟨q0, q1, qP, qK, qD, qN, qF⟩ := q
  exact ⟨q0, q1, qP, va_K.moved (u := U) (U := U.calling g mk a) (Vm.Alike.refl U.vm) qK, qD, ks_same (u := U) (U := U.calling g mk a) rfl qN, qF.to (u := U) (U := U.calling g mk a) (Vm.Alike.refl U.vm) (fun _ _ _ => rfl) (fun _ h => h)⟩
/-- what holds at every place of a method's body -/
def kC (p : Program) (s : State) (m : MethodId) (args : Array Value) (meth : Method) (c : Code) (D : va_G) (T : List (ClassId × FieldType)) (cc : ByteArray) (rt : Option FieldType) (nL : Nat) (own : String) (A : Nat → Prop) : Prop :=
  p.tables.exec = Jvm.exec ∧ c.code = cc ∧ meth.sig.returnType = rt ∧ c.maxLocals = nL ∧ s.vm.findClass own = some m.cls ∧ (∀ w ∈ wsL_law, w.before args s = true) ∧ va_K D vwCl T s ∧ ks_N s ∧ (∀ q, s.heap.size ≤ q → A q) ∧ meth.locks = false ∧ kF A s s.heap
theorem kEnter {l : Launch} {y : MethodName} {cc : ByteArray} {maxL : Nat} {ret : Option FieldType} {rm : Room} {D : va_G} {T : List (ClassId × FieldType)} {As : List Value} {ws : va_W} {sz : Nat} {Q : Array Value → State → Outcome → State → Prop} {lv : List (Nat × Value)} {own : String} (hy : plainName y.cls = true) (ho : y.cls = own) (hlen : (lg_sl As).length ≤ maxL) (hlv : lv_args 0 As = lv)
    (body : ∀ (p : Program) (e : Env) (s : State) (m : MethodId) (below : List Frame) (meth : Method) (c : Code), sz = s.heap.size → kC p s m As.toArray meth c D T cc ret maxL own (va_A ws sz) → va_P D vwCl ws s.heap → va_D (va_A ws sz) ws → va_S (va_A ws sz) s.heap s.heap [] → ∀ ls : Array Slot, lv_has ls maxL lv → W p l e rm s m As.toArray below meth c s.heap [] 0 0 (MQ below Q As.toArray s 0 0 (va_A ws sz)) (F0 m 0 ls [])) : kMet l y cc maxL ret rm D T As ws sz Q := by
  subst ho
  refine Met.ofW (cc := cc) (maxL := maxL) (ret := ret) hy rfl ?_
  intro p e s m args below meth c s₁ B hml hv
  obtain ⟨rfl, hsz, hP, hK, hD0, hN, hF⟩ := hv
  have hts := atoms_spec (ws := ws_ y cc maxL ret) B.pre
  have hl := lv_entry As (n := maxL) hlen
  rw [hlv] at hl
  rw [lg_entry_eq]
  exact body p e s m below meth c hsz.symm ⟨B.exec, B.bytes, B.returns, hml, findClass_of_methodNamed B.named, fun w h => hts w (List.mem_cons_of_mem _ h), hK, hN, fun q h => Or.inr (by rw [← hsz]; exact h), B.notSynchronized, hF⟩ hP hD0.self va_S.rf _ hl
theorem kPick {is : List Nat} {ws wc : va_W} (h : is.map (fun i => ws[i]?) = wc.map some) : is.filterMap (fun i => ws[i]?) = wc := by
  have : is.filterMap (fun i => ws[i]?) = (is.map (fun i => ws[i]?)).filterMap id := by rw [List.filterMap_map]; rfl
  rw [this, h, List.filterMap_map]
  simp
section KL
variable {p : Program} {l : Launch} {e : Env} {R : Room} {s : State} {m : MethodId} {args : Array Value} {below : List Frame} {meth : Method} {c : Code} {H : Heap} {locs : List Loc} {Q : State → Prop} {D : va_G} {T : List (ClassId × FieldType)} {cc : ByteArray} {rt : Option FieldType} {nL : Nat} {own : String} {A : Nat → Prop} {ws wc ws' wc' : va_W} {pc : Nat} {ls : Array Slot} {rest st0 : List Value}
theorem kret_i {r : Int32} {ty : FieldType} (C0 : kC p s m args meth c D T cc (some ty) nL own A) (hP : va_P D vwCl ws' H) (hD : va_D A ws') (hS : va_S A s.heap H locs) (hn : narrow ty (.int r) = .int r) (hdg : decode cc pc = .ok (.ireturn, 1)) : W p l e R s m args below meth c H locs 0 0 (MQ below (kQI D T A r ws') args s 0 0 A) (F0 m pc ls [.int r]) := by
  obtain ⟨hx, hb, hr, hml, hown, hts, hK, hN, hA, hlocks, hF⟩ := C0
  exact W.zret hx hb hr hn (fun t ht hW => ⟨⟨r, (), rfl, rfl, by rw [ht]; exact hP, va_K.moved hW.alike hK, hD⟩, hS.F ht⟩) hS.2.2 hdg hlocks
theorem kret_l {r : Int64} (C0 : kC p s m args meth c D T cc (some .long) nL own A) (hP : va_P D vwCl ws' H) (hD : va_D A ws') (hS : va_S A s.heap H locs) (hdg : decode cc pc = .ok (.lreturn, 1)) : W p l e R s m args below meth c H locs 0 0 (MQ below (kQL D T A r ws') args s 0 0 A) (F0 m pc ls [.long r]) := by
  obtain ⟨hx, hb, hr, hml, hown, hts, hK, hN, hA, hlocks, hF⟩ := C0
  exact W.lret hx hb hr (fun t ht hW => ⟨⟨r, (), rfl, rfl, by rw [ht]; exact hP, va_K.moved hW.alike hK, hD⟩, hS.F ht⟩) hS.2.2 hdg hlocks
theorem kret_v (C0 : kC p s m args meth c D T cc none nL own A) (hP : va_P D vwCl ws' H) (hD : va_D A ws') (hS : va_S A s.heap H locs) (hdg : decode cc pc = .ok (.return_, 1)) : W p l e R s m args below meth c H locs 0 0 (MQ below (kQV D T A ws') args s 0 0 A) (F0 m pc ls []) := by
  obtain ⟨hx, hb, hr, hml, hown, hts, hK, hN, hA, hlocks, hF⟩ := C0
  exact W.vret hx hb hr (fun t ht hW => ⟨⟨(), rfl, trivial, by rw [ht]; exact hP, va_K.moved hW.alike hK, hD⟩, hS.F ht⟩) hS.2.2 hdg hlocks
theorem kret_r {r : Nat} {C : String} (C0 : kC p s m args meth c D T cc (some (.object C)) nL own A) (hP : va_P D vwCl ws' H) (hD : va_D A ws') (hS : va_S A s.heap H locs) (hdg : decode cc pc = .ok (.areturn, 1)) : W p l e R s m args below meth c H locs 0 0 (MQ below (kQR D T A r ws') args s 0 0 A) (F0 m pc ls [.ref r]) := by
  obtain ⟨hx, hb, hr, hml, hown, hts, hK, hN, hA, hlocks, hF⟩ := C0
  exact W.aret hx hb hr (Or.inl ⟨_, rfl⟩) (Or.inr ⟨_, rfl⟩) (fun t ht hW => ⟨⟨(), r, rfl, trivial, rfl, by rw [ht]; exact hP, va_K.moved hW.alike hK, hD⟩, hS.F ht⟩) hS.2.2 hdg hlocks
variable {cells slots : Nat} {y : MethodName} {bytes : ByteArray} {maxL n index ci NN : Nat} {ret : Option FieldType} {rm : Room} {Qc : Array Value → State → Outcome → State → Prop} {C : String} {TT : u_T} {fs : List Value} {b : Addr} {As : List Value}
abbrev kD (y : MethodName) (n : Nat) : Prop := y.cls ≠ "java/lang/invoke/MethodHandle" ∧ y.cls ≠ "java/lang/invoke/VarHandle" ∧ (parseMethodDescriptor y.desc).map (fun d => d.parameters.length) = some n
abbrev kR (rm R : Room) (maxL : Nat) : Prop := rm.frames + 1 ≤ R.frames ∧ 8 + (maxL + 11) + rm.locals ≤ R.locals ∧ rm.cells = 0 ∧ rm.slots = 0
theorem kPs (C0 : kC p s m args meth c D T cc rt nL own A) (hPc : va_P D vwCl wc H) (hDc : va_D A wc) (hS : va_S A s.heap H locs) (hFc : ∀ q, va_A wc H.size q → A q) : ∀ U : State, U.heap = H → s.WarmedH U.vm → va_Pc As (kPre D T wc H.size) As.toArray U := by
  obtain ⟨hx, hb, hr, hml, hown, hts, hK, hN, hA, hlocks, hF⟩ := C0
  intro U hU hW
  exact ⟨rfl, by rw [hU], by rw [hU]; exact hPc, va_K.moved hW.alike hK, hDc.weaken (fun _ _ _ _ => trivial), ks_warm hW hN, by rw [hU]; exact hF.to hW.alike hS.2.1 hFc⟩
/-- a call of a method of the same class -/
theorem kV (C0 : kC p s m args meth c D T cc rt nL own A) (hP : va_P D vwCl ws H) (hD : va_D A ws) (hS : va_S A s.heap H locs) (isC : List Nat) (hC : isC.map (fun i => ws[i]?) = wc.map some) (hn1 : va_nd isC = true) (hM : kMet l y bytes maxL ret rm D T (.ref b :: As) wc H.size Qc) (hc : Cond.code y bytes maxL ret ∈ wsL_law) (hl : Cond.methodLink own index y ∈ wsL_law) (hi : Cond.instanceMethod y ∈ wsL_law) (hse : Cond.selects C y y ∈ wsL_law) (hini : Cond.initialized y.cls ∈ wsL_law) (hd : kD y n) (hR : kR rm R maxL) (hb0 : wc[0]? = some (b, .inr (ci, fs))) (hci : vwCl[ci]? = some (C, TT, NN)) (hn : As.length = n) (hls : ls.size = nL) (hst : st0 = As.reverse ++ .ref b :: rest) (hrest : (rest.map fun v => v.category).sum ≤ 8) (hcl : cells ≤ R.cells ∧ slots ≤ R.slots) (hdg : decode cc pc = .ok (.invokevirtual index, 3)) : va_Run p l e R s m args below meth c H locs cells slots 0 0 (F0 m pc ls st0) rest (Qc (Value.ref b :: As).toArray) (va_A wc H.size) := by
  subst hst
  have hPc := hP.sub (ws' := wc) isC (kPick hC)
  have hDc := hD.sub (ws' := wc) isC hn1 hC
  have C1 := C0
  have hFc : ∀ q, va_A wc H.size q → A q := va_free (wc := wc) hD hS C0.2.2.2.2.2.2.2.2.1 isC hC
  obtain ⟨hx, hb, hr, hml, hown, hts, hK, hN, hA, hlocks, hF⟩ := C0
  exact va_runV (As := As) (rest := rest) (C := C) ⟨hx, hb, hml, hown, hts⟩ hM ⟨callB_of n hts (good_ws hc) rfl hR.2.2.1 hR.2.2.2 (hts _ hini) (hts _ hl) hd ⟨hR.1, hR.2.1⟩, hts _ hi, hts _ hse⟩ ⟨kPre_blind, va_recv hK hPc hci hb0, kPs C1 hPc hDc hS hFc⟩ rfl hn hls rfl (lv_room hrest) hdg hcl
theorem kS (C0 : kC p s m args meth c D T cc rt nL own A) (hP : va_P D vwCl ws H) (hD : va_D A ws) (hS : va_S A s.heap H locs) (isC : List Nat) (hC : isC.map (fun i => ws[i]?) = wc.map some) (hn1 : va_nd isC = true) (hM : kMet l y bytes maxL ret rm D T As wc H.size Qc) (hc : Cond.code y bytes maxL ret ∈ wsL_law) (hl : Cond.methodLink own index y ∈ wsL_law) (hi : Cond.static y ∈ wsL_law) (hini : Cond.initialized y.cls ∈ wsL_law) (hd : kD y n) (hR : kR rm R maxL) (hn : As.length = n) (hls : ls.size = nL) (hst : st0 = As.reverse ++ rest) (hrest : (rest.map fun v => v.category).sum ≤ 8) (hcl : cells ≤ R.cells ∧ slots ≤ R.slots) (hdg : decode cc pc = .ok (.invokestatic index, 3)) : va_Run p l e R s m args below meth c H locs cells slots 0 0 (F0 m pc ls st0) rest (Qc As.toArray) (va_A wc H.size) := by
  subst hst
  have hPc := hP.sub (ws' := wc) isC (kPick hC)
  have hDc := hD.sub (ws' := wc) isC hn1 hC
  have C1 := C0
  have hFc : ∀ q, va_A wc H.size q → A q := va_free (wc := wc) hD hS C0.2.2.2.2.2.2.2.2.1 isC hC
  obtain ⟨hx, hb, hr, hml, hown, hts, hK, hN, hA, hlocks, hF⟩ := C0
  exact va_runS (As := As) (rest := rest) ⟨hx, hb, hml, hown, hts⟩ hM ⟨callB_of n hts (good_ws hc) rfl hR.2.2.1 hR.2.2.2 (hts _ hini) (hts _ hl) hd ⟨hR.1, hR.2.1⟩, hts _ hi⟩ ⟨kPre_blind, kPs C1 hPc hDc hS hFc⟩ rfl hn hls rfl (lv_room hrest) hdg hcl
/-- a call of a nest mate's private method -/
theorem kVN (C0 : kC p s m args meth c D T cc rt nL own A) (hP : va_P D vwCl ws H) (hD : va_D A ws) (hS : va_S A s.heap H locs) (isC : List Nat) (hC : isC.map (fun i => ws[i]?) = wc.map some) (hn1 : va_nd isC = true) (hM : kMet l y bytes maxL ret rm D T (.ref b :: As) wc H.size Qc) (hc : Cond.code y bytes maxL ret ∈ wsL_law) (hl : va_Nw (.methodLinkNest own index y "LampShares") s) (hi : Cond.instanceMethod y ∈ wsL_law) (hse : Cond.selects C y y ∈ wsL_law) (hini : Cond.initialized y.cls ∈ wsL_law) (hd : kD y n) (hR : kR rm R maxL) (hb0 : wc[0]? = some (b, .inr (ci, fs))) (hci : vwCl[ci]? = some (C, TT, NN)) (hn : As.length = n) (hls : ls.size = nL) (hst : st0 = As.reverse ++ .ref b :: rest) (hrest : (rest.map fun v => v.category).sum ≤ 8) (hcl : cells ≤ R.cells ∧ slots ≤ R.slots) (hdg : decode cc pc = .ok (.invokevirtual index, 3)) : va_Run p l e R s m args below meth c H locs cells slots 0 0 (F0 m pc ls st0) rest (Qc (Value.ref b :: As).toArray) (va_A wc H.size) := by
  subst hst
  have hPc := hP.sub (ws' := wc) isC (kPick hC)
  have hDc := hD.sub (ws' := wc) isC hn1 hC
  have C1 := C0
  have hFc : ∀ q, va_A wc H.size q → A q := va_free (wc := wc) hD hS C0.2.2.2.2.2.2.2.2.1 isC hC
  obtain ⟨hx, hb, hr, hml, hown, hts, hK, hN, hA, hlocks, hF⟩ := C0
  exact va_runVN (As := As) (rest := rest) (C := C) ⟨hx, hb, hml, hown, hts⟩ hM ⟨va_cnB n hts (good_ws hc) rfl hR.2.2.1 hR.2.2.2 hl (hts _ hini) hd ⟨hR.1, hR.2.1⟩, hts _ hi, hts _ hse⟩ ⟨kPre_blind, va_recv hK hPc hci hb0, kPs C1 hPc hDc hS hFc⟩ rfl hn hls rfl (lv_room hrest) hdg hcl
theorem kSN (C0 : kC p s m args meth c D T cc rt nL own A) (hP : va_P D vwCl ws H) (hD : va_D A ws) (hS : va_S A s.heap H locs) (isC : List Nat) (hC : isC.map (fun i => ws[i]?) = wc.map some) (hn1 : va_nd isC = true) (hM : kMet l y bytes maxL ret rm D T As wc H.size Qc) (hc : Cond.code y bytes maxL ret ∈ wsL_law) (hl : va_Nw (.methodLinkNest own index y "LampShares") s) (hi : Cond.static y ∈ wsL_law) (hini : Cond.initialized y.cls ∈ wsL_law) (hd : kD y n) (hR : kR rm R maxL) (hn : As.length = n) (hls : ls.size = nL) (hst : st0 = As.reverse ++ rest) (hrest : (rest.map fun v => v.category).sum ≤ 8) (hcl : cells ≤ R.cells ∧ slots ≤ R.slots) (hdg : decode cc pc = .ok (.invokestatic index, 3)) : va_Run p l e R s m args below meth c H locs cells slots 0 0 (F0 m pc ls st0) rest (Qc As.toArray) (va_A wc H.size) := by
  subst hst
  have hPc := hP.sub (ws' := wc) isC (kPick hC)
  have hDc := hD.sub (ws' := wc) isC hn1 hC
  have C1 := C0
  have hFc : ∀ q, va_A wc H.size q → A q := va_free (wc := wc) hD hS C0.2.2.2.2.2.2.2.2.1 isC hC
  obtain ⟨hx, hb, hr, hml, hown, hts, hK, hN, hA, hlocks, hF⟩ := C0
  exact va_runSN (As := As) (rest := rest) ⟨hx, hb, hml, hown, hts⟩ hM ⟨va_cnB n hts (good_ws hc) rfl hR.2.2.1 hR.2.2.2 hl (hts _ hini) hd ⟨hR.1, hR.2.1⟩, hts _ hi, trivial⟩ ⟨kPre_blind, kPs C1 hPc hDc hS hFc⟩ rfl hn hls rfl (lv_room hrest) hdg hcl
/-- the world behind a call: callee's cells anew, the rest as it was -/
theorem kBack (hP : va_P D vwCl ws H) (hD : va_D A ws) (isC isR isO : List Nat) {wr : va_W} (hC : isC.map (fun i => ws[i]?) = wc.map some) (hRr : isR.map (fun i => ws[i]?) = wr.map some) (hn : va_nd isR = true) (hdis : ∀ i ∈ isR, i ∉ isC) (hO : isO.map (fun i => (wr ++ wc')[i]?) = ws'.map some) (hO2 : va_nd isO = true) {H1 : Heap} (hk : ∀ q : Nat, q < H.size → ¬ va_A wc H.size q → H1[q]? = H[q]?) (hF : ∀ q, va_A wc H.size q → A q) (hP1 : va_P D vwCl wc' H1) (hD1 : va_D (va_A wc H.size) wc') : va_P D vwCl ws' H1 ∧ va_D A ws' := by
  obtain ⟨a, b⟩ := va_join hP hD isC isR hC hRr hn hdis hk hF hP1 hD1
  exact ⟨a.sub isO (kPick hO), b.sub isO hO2 hO⟩
theorem k_lt {k : Nat} {a : Nat} {x : va_E} (h : va_P D vwCl ws H) (hk : ws[k]? = some (a, x)) : a < H.size := by
  have h4 := h k _ hk
  unfold va_at at h4
  rcases x with x | x
  · dsimp only at h4
    exact (Array.getElem?_eq_some_iff.mp h4).1
  · dsimp only at h4
    obtain ⟨r, h5, cell, h6, h7⟩ := h4
    exact (Array.getElem?_eq_some_iff.mp h6).1
theorem kRo (hP : va_P D vwCl ws H) (hD : va_D A ws) (isC : List Nat) (hC : isC.map (fun i => ws[i]?) = wc.map some) {H1 : Heap} (hk : ∀ q : Nat, q < H.size → ¬ va_A wc H.size q → H1[q]? = H[q]?) (hP1 : va_P D vwCl wc H1) : va_P D vwCl ws H1 := by
  rintro k ⟨a, x⟩ hq
  by_cases hx : ∃ (j : Nat) (e : va_E), wc[j]? = some (a, e)
  · obtain ⟨j, e, hj⟩ := hx
    have h1 : (isC.map (fun i => ws[i]?))[j]? = some (some (a, e)) := by rw [hC, List.getElem?_map, hj]; rfl
    rw [List.getElem?_map] at h1
    cases hi : isC[j]? with
    | none => rw [hi] at h1; cases h1
    | some i =>
      rw [hi] at h1
      have h2 : ws[i]? = some (a, e) := by simpa using h1
      have h3 : k = i := hD.1 k i _ _ hq h2 rfl
      subst h3
      rw [hq] at h2
      cases h2
      exact hP1 j _ hj
  · have hlt := k_lt hP hq
    have h0 := hk a hlt (fun h => by
      rcases h with ⟨j, e, hj⟩ | h
      · exact hx ⟨j, e, hj⟩
      · exact absurd h (Nat.not_le.mpr hlt))
    have h4 := hP k _ hq
    unfold va_at at h4 ⊢
    rcases x with x | x
    · dsimp only at h4 ⊢; rw [h0]; exact h4
    · dsimp only at h4 ⊢
      obtain ⟨r, h5, cell, h6, h7⟩ := h4
      exact ⟨r, h5, cell, by rw [h0]; exact h6, h7⟩
theorem kgo_i {r : Int32} {a : Array Value} (C0 : kC p s m args meth c D T cc rt nL own A) (hP : va_P D vwCl ws H) (hD : va_D A ws) (hS : va_S A s.heap H locs) (isC isR isO : List Nat) (wr : va_W) (hC : isC.map (fun i => ws[i]?) = wc.map some) (hRr : isR.map (fun i => ws[i]?) = wr.map some) (hn : va_nd isR = true) (hdis : ∀ i ∈ isR, i ∉ isC) (hO : isO.map (fun i => (wr ++ wc')[i]?) = ws'.map some) (hO2 : va_nd isO = true)
    (hr : va_Run p l e R s m args below meth c H locs cells slots 0 0 (F0 m pc ls st0) rest (kQI D T (va_A wc H.size) r wc' a) (va_A wc H.size)) (k : ∀ (H1 : Heap) (locs1 : List Loc), va_P D vwCl ws' H1 → va_D A ws' → va_S A s.heap H1 locs1 → W p l e R s m args below meth c H1 locs1 cells slots Q (F0 m (pc + 3) ls (.int r :: rest))) : W p l e R s m args below meth c H locs cells slots Q (F0 m pc ls st0) := by
  obtain ⟨hx, hb, hr0, hml, hown, hts, hK, hN, hA, hlocks, hF⟩ := C0
  have hFc := va_free (wc := wc) hD hS hA isC hC
  refine va_calli hr hS (fun q _ h => hFc q h) hFc (fun r2 u t H1 locs1 ht hvm hw hB hz1 hk1 hS1 => ?_)
  obtain ⟨hP1, hK1, hD1⟩ := hB
  rw [ht] at hP1
  have hw : r2 = r := hw
  subst hw
  obtain ⟨x1, x2⟩ := kBack hP hD isC isR isO hC hRr hn hdis hO hO2 hk1 hFc hP1 hD1
  exact k H1 locs1 x1 x2 hS1
theorem kgo_v {a : Array Value} (C0 : kC p s m args meth c D T cc rt nL own A) (hP : va_P D vwCl ws H) (hD : va_D A ws) (hS : va_S A s.heap H locs) (isC isR isO : List Nat) (wr : va_W) (hC : isC.map (fun i => ws[i]?) = wc.map some) (hRr : isR.map (fun i => ws[i]?) = wr.map some) (hn : va_nd isR = true) (hdis : ∀ i ∈ isR, i ∉ isC) (hO : isO.map (fun i => (wr ++ wc')[i]?) = ws'.map some) (hO2 : va_nd isO = true)
    (hr : va_Run p l e R s m args below meth c H locs cells slots 0 0 (F0 m pc ls st0) rest (kQV D T (va_A wc H.size) wc' a) (va_A wc H.size)) (k : ∀ (H1 : Heap) (locs1 : List Loc), va_P D vwCl ws' H1 → va_D A ws' → va_S A s.heap H1 locs1 → W p l e R s m args below meth c H1 locs1 cells slots Q (F0 m (pc + 3) ls rest)) : W p l e R s m args below meth c H locs cells slots Q (F0 m pc ls st0) := by
  obtain ⟨hx, hb, hr0, hml, hown, hts, hK, hN, hA, hlocks, hF⟩ := C0
  have hFc := va_free (wc := wc) hD hS hA isC hC
  refine va_callv hr hS (fun q _ h => hFc q h) hFc (fun u t H1 locs1 ht hvm hw hB hz1 hk1 hS1 => ?_)
  obtain ⟨hP1, hK1, hD1⟩ := hB
  rw [ht] at hP1
  obtain ⟨x1, x2⟩ := kBack hP hD isC isR isO hC hRr hn hdis hO hO2 hk1 hFc hP1 hD1
  exact k H1 locs1 x1 x2 hS1
theorem kgo_l {r : Int64} {a : Array Value} (C0 : kC p s m args meth c D T cc rt nL own A) (hP : va_P D vwCl ws H) (hD : va_D A ws) (hS : va_S A s.heap H locs) (isC isR isO : List Nat) (wr : va_W) (hC : isC.map (fun i => ws[i]?) = wc.map some) (hRr : isR.map (fun i => ws[i]?) = wr.map some) (hn : va_nd isR = true) (hdis : ∀ i ∈ isR, i ∉ isC) (hO : isO.map (fun i => (wr ++ wc')[i]?) = ws'.map some) (hO2 : va_nd isO = true)
    (hr : va_Run p l e R s m args below meth c H locs cells slots 0 0 (F0 m pc ls st0) rest (kQL D T (va_A wc H.size) r wc' a) (va_A wc H.size)) (k : ∀ (H1 : Heap) (locs1 : List Loc), va_P D vwCl ws' H1 → va_D A ws' → va_S A s.heap H1 locs1 → W p l e R s m args below meth c H1 locs1 cells slots Q (F0 m (pc + 3) ls (.long r :: rest))) : W p l e R s m args below meth c H locs cells slots Q (F0 m pc ls st0) := by
  obtain ⟨hx, hb, hr0, hml, hown, hts, hK, hN, hA, hlocks, hF⟩ := C0
  have hFc := va_free (wc := wc) hD hS hA isC hC
  refine va_calll hr hS (fun q _ h => hFc q h) hFc (fun r2 u t H1 locs1 ht hvm hw hB hz1 hk1 hS1 => ?_)
  obtain ⟨hP1, hK1, hD1⟩ := hB
  rw [ht] at hP1
  have hw : r2 = r := hw
  subst hw
  obtain ⟨x1, x2⟩ := kBack hP hD isC isR isO hC hRr hn hdis hO hO2 hk1 hFc hP1 hD1
  exact k H1 locs1 x1 x2 hS1
/-- a call that leaves all cells as they were -/
theorem kro_i {r : Int32} {a : Array Value} (C0 : kC p s m args meth c D T cc rt nL own A) (hP : va_P D vwCl ws H) (hD : va_D A ws) (hS : va_S A s.heap H locs) (isC : List Nat) (hC : isC.map (fun i => ws[i]?) = wc.map some)
    (hr : va_Run p l e R s m args below meth c H locs cells slots 0 0 (F0 m pc ls st0) rest (kQI D T (va_A wc H.size) r wc a) (va_A wc H.size)) (k : ∀ (H1 : Heap) (locs1 : List Loc), va_P D vwCl ws H1 → va_S A s.heap H1 locs1 → W p l e R s m args below meth c H1 locs1 cells slots Q (F0 m (pc + 3) ls (.int r :: rest))) : W p l e R s m args below meth c H locs cells slots Q (F0 m pc ls st0) := by
  obtain ⟨hx, hb, hr0, hml, hown, hts, hK, hN, hA, hlocks, hF⟩ := C0
  have hFc := va_free (wc := wc) hD hS hA isC hC
  refine va_calli hr hS (fun q _ h => hFc q h) hFc (fun r2 u t H1 locs1 ht hvm hw hB hz1 hk1 hS1 => ?_)
  obtain ⟨hP1, hK1, hD1⟩ := hB
  rw [ht] at hP1
  have hw : r2 = r := hw
  subst hw
  exact k H1 locs1 (kRo hP hD isC hC hk1 hP1) hS1
theorem kro_l {r : Int64} {a : Array Value} (C0 : kC p s m args meth c D T cc rt nL own A) (hP : va_P D vwCl ws H) (hD : va_D A ws) (hS : va_S A s.heap H locs) (isC : List Nat) (hC : isC.map (fun i => ws[i]?) = wc.map some)
    (hr : va_Run p l e R s m args below meth c H locs cells slots 0 0 (F0 m pc ls st0) rest (kQL D T (va_A wc H.size) r wc a) (va_A wc H.size)) (k : ∀ (H1 : Heap) (locs1 : List Loc), va_P D vwCl ws H1 → va_S A s.heap H1 locs1 → W p l e R s m args below meth c H1 locs1 cells slots Q (F0 m (pc + 3) ls (.long r :: rest))) : W p l e R s m args below meth c H locs cells slots Q (F0 m pc ls st0) := by
  obtain ⟨hx, hb, hr0, hml, hown, hts, hK, hN, hA, hlocks, hF⟩ := C0
  have hFc := va_free (wc := wc) hD hS hA isC hC
  refine va_calll hr hS (fun q _ h => hFc q h) hFc (fun r2 u t H1 locs1 ht hvm hw hB hz1 hk1 hS1 => ?_)
  obtain ⟨hP1, hK1, hD1⟩ := hB
  rw [ht] at hP1
  have hw : r2 = r := hw
  subst hw
  exact k H1 locs1 (kRo hP hD isC hC hk1 hP1) hS1
theorem kro_r {r : Nat} {a : Array Value} (C0 : kC p s m args meth c D T cc rt nL own A) (hP : va_P D vwCl ws H) (hD : va_D A ws) (hS : va_S A s.heap H locs) (isC : List Nat) (hC : isC.map (fun i => ws[i]?) = wc.map some)
    (hr : va_Run p l e R s m args below meth c H locs cells slots 0 0 (F0 m pc ls st0) rest (kQR D T (va_A wc H.size) r wc a) (va_A wc H.size)) (k : ∀ (H1 : Heap) (locs1 : List Loc), va_P D vwCl ws H1 → va_S A s.heap H1 locs1 → W p l e R s m args below meth c H1 locs1 cells slots Q (F0 m (pc + 3) ls (.ref r :: rest))) : W p l e R s m args below meth c H locs cells slots Q (F0 m pc ls st0) := by
  obtain ⟨hx, hb, hr0, hml, hown, hts, hK, hN, hA, hlocks, hF⟩ := C0
  have hFc := va_free (wc := wc) hD hS hA isC hC
  refine va_callr hr hS (fun q _ h => hFc q h) hFc (fun u r2 t H1 locs1 ht hvm hw hB hz1 hk1 hS1 => ?_)
  obtain ⟨hw, hP1, hK1, hD1⟩ := hB
  rw [ht] at hP1
  subst hw
  exact k H1 locs1 (kRo hP hD isC hC hk1 hP1) hS1
theorem kldw_f {v : UInt32} {ix : Nat} (hexec : p.tables.exec = Jvm.exec) (hb : c.code = cc) (hown : s.vm.findClass own = some m.cls) (hconst : (Jvm.Cond.constantFloat own ix v).before args s = true) (hdg : decode cc pc = .ok (.ldc_w ix, 3)) (k : W p l e R s m args below meth c H locs cells slots Q (F0 m (pc + 3) ls (.float v :: rest))) : W p l e R s m args below meth c H locs cells slots Q (F0 m pc ls rest) := by
  intro T hT X
  obtain ⟨t, a, b⟩ := k T hT X
  refine ⟨t, ?_, b⟩
  obtain ⟨k0, cf, hk, hcf, hcp⟩ := Cond.constantFloat_spec hown hconst
  obtain ⟨k', hk', he⟩ := X.warmed.alike.2.2 _ _ hk
  subst hb
  jvm_step X.here [hexec, hdg, ldc_w.wp_float (s := T) (f := F0 m pc ls rest) X.here.top hk' (by rw [he]; exact hcf) hcp]
  exact a
end KL
/-! OPTIONS: what a function that answers says on its way -/
def nm_ {α β : Type} (x : α) (f : α → β) : β := f x
theorem oc_nm {α β : Type} {x y : α} {f : α → β} {r : β} (e : y = x) (h : nm_ x f = r) : f y = r := by subst e; exact h
theorem oc_t {α : Type} {c : Prop} [Decidable c] {a b r : α} (hc : c) (h : (if c then a else b) = r) : a = r := by rw [if_pos hc] at h; exact h
theorem oc_f {α : Type} {c : Prop} [Decidable c] {a b r : α} (hc : ¬ c) (h : (if c then a else b) = r) : b = r := by rw [if_neg hc] at h; exact h
theorem oc_else {α : Type} {c : Prop} [Decidable c] {x : Option α} {r : α} (h : (if c then none else x) = some r) : ¬ c ∧ x = some r := by
  by_cases hc : c
  · rw [if_pos hc] at h; cases h
  · rw [if_neg hc] at h; exact ⟨hc, h⟩
theorem oc_then {α : Type} {c : Prop} [Decidable c] {x : Option α} {r : α} (h : (if c then x else none) = some r) : c ∧ x = some r := by
  by_cases hc : c
  · rw [if_pos hc] at h; exact ⟨hc, h⟩
  · rw [if_neg hc] at h; cases h
theorem oc_bind {α β : Type} {x : Option α} {f : α → Option β} {r : β} (h : x.bind f = some r) : ∃ a, x = some a ∧ f a = some r := by
  cases x with
  | none => cases h
  | some a => exact ⟨a, rfl, h⟩
theorem kn_bool {v : Int32} (h : v &&& 1 = v) : narrow .boolean (.int v) = .int v := by
  show Value.int (v &&& 1) = _
  rw [h]
theorem kn_char {v : Int32} (h : v.toUInt32.toUInt16.toUInt32.toInt32 = v) : narrow .char (.int v) = .int v := by
  show Value.int v.toUInt32.toUInt16.toUInt32.toInt32 = _
  rw [h]
def un2 {α1 α2 β : Type} (z : α1 × α2) (f : α1 → α2 → β) : β := f z.1 z.2
theorem oc_b2 {α1 α2 β : Type} {x : Option (α1 × α2)} {f : α1 → α2 → Option β} {r : β} (h : x.bind (fun z => un2 z f) = some r) : ∃ a1 a2, x = some (a1, a2) ∧ f a1 a2 = some r := by
  obtain ⟨⟨a1, a2⟩, h1, h2⟩ := oc_bind h
  exact ⟨a1, a2, h1, h2⟩
def un3 {α1 α2 α3 β : Type} (z : α1 × α2 × α3) (f : α1 → α2 → α3 → β) : β := f z.1 z.2.1 z.2.2
theorem oc_b3 {α1 α2 α3 β : Type} {x : Option (α1 × α2 × α3)} {f : α1 → α2 → α3 → Option β} {r : β} (h : x.bind (fun z => un3 z f) = some r) : ∃ a1 a2 a3, x = some (a1, a2, a3) ∧ f a1 a2 a3 = some r := by
  obtain ⟨⟨a1, a2, a3⟩, h1, h2⟩ := oc_bind h
  exact ⟨a1, a2, a3, h1, h2⟩
def un4 {α1 α2 α3 α4 β : Type} (z : α1 × α2 × α3 × α4) (f : α1 → α2 → α3 → α4 → β) : β := f z.1 z.2.1 z.2.2.1 z.2.2.2
theorem oc_b4 {α1 α2 α3 α4 β : Type} {x : Option (α1 × α2 × α3 × α4)} {f : α1 → α2 → α3 → α4 → Option β} {r : β} (h : x.bind (fun z => un4 z f) = some r) : ∃ a1 a2 a3 a4, x = some (a1, a2, a3, a4) ∧ f a1 a2 a3 a4 = some r := by
  obtain ⟨⟨a1, a2, a3, a4⟩, h1, h2⟩ := oc_bind h
  exact ⟨a1, a2, a3, a4, h1, h2⟩
def un5 {α1 α2 α3 α4 α5 β : Type} (z : α1 × α2 × α3 × α4 × α5) (f : α1 → α2 → α3 → α4 → α5 → β) : β := f z.1 z.2.1 z.2.2.1 z.2.2.2.1 z.2.2.2.2
theorem oc_b5 {α1 α2 α3 α4 α5 β : Type} {x : Option (α1 × α2 × α3 × α4 × α5)} {f : α1 → α2 → α3 → α4 → α5 → Option β} {r : β} (h : x.bind (fun z => un5 z f) = some r) : ∃ a1 a2 a3 a4 a5, x = some (a1, a2, a3, a4, a5) ∧ f a1 a2 a3 a4 a5 = some r := by
  obtain ⟨⟨a1, a2, a3, a4, a5⟩, h1, h2⟩ := oc_bind h
  exact ⟨a1, a2, a3, a4, a5, h1, h2⟩
def un6 {α1 α2 α3 α4 α5 α6 β : Type} (z : α1 × α2 × α3 × α4 × α5 × α6) (f : α1 → α2 → α3 → α4 → α5 → α6 → β) : β := f z.1 z.2.1 z.2.2.1 z.2.2.2.1 z.2.2.2.2.1 z.2.2.2.2.2
theorem oc_b6 {α1 α2 α3 α4 α5 α6 β : Type} {x : Option (α1 × α2 × α3 × α4 × α5 × α6)} {f : α1 → α2 → α3 → α4 → α5 → α6 → Option β} {r : β} (h : x.bind (fun z => un6 z f) = some r) : ∃ a1 a2 a3 a4 a5 a6, x = some (a1, a2, a3, a4, a5, a6) ∧ f a1 a2 a3 a4 a5 a6 = some r := by
  obtain ⟨⟨a1, a2, a3, a4, a5, a6⟩, h1, h2⟩ := oc_bind h
  exact ⟨a1, a2, a3, a4, a5, a6, h1, h2⟩
def un7 {α1 α2 α3 α4 α5 α6 α7 β : Type} (z : α1 × α2 × α3 × α4 × α5 × α6 × α7) (f : α1 → α2 → α3 → α4 → α5 → α6 → α7 → β) : β := f z.1 z.2.1 z.2.2.1 z.2.2.2.1 z.2.2.2.2.1 z.2.2.2.2.2.1 z.2.2.2.2.2.2
theorem oc_b7 {α1 α2 α3 α4 α5 α6 α7 β : Type} {x : Option (α1 × α2 × α3 × α4 × α5 × α6 × α7)} {f : α1 → α2 → α3 → α4 → α5 → α6 → α7 → Option β} {r : β} (h : x.bind (fun z => un7 z f) = some r) : ∃ a1 a2 a3 a4 a5 a6 a7, x = some (a1, a2, a3, a4, a5, a6, a7) ∧ f a1 a2 a3 a4 a5 a6 a7 = some r := by
  obtain ⟨⟨a1, a2, a3, a4, a5, a6, a7⟩, h1, h2⟩ := oc_bind h
  exact ⟨a1, a2, a3, a4, a5, a6, a7, h1, h2⟩
def un8 {α1 α2 α3 α4 α5 α6 α7 α8 β : Type} (z : α1 × α2 × α3 × α4 × α5 × α6 × α7 × α8) (f : α1 → α2 → α3 → α4 → α5 → α6 → α7 → α8 → β) : β := f z.1 z.2.1 z.2.2.1 z.2.2.2.1 z.2.2.2.2.1 z.2.2.2.2.2.1 z.2.2.2.2.2.2.1 z.2.2.2.2.2.2.2
theorem oc_b8 {α1 α2 α3 α4 α5 α6 α7 α8 β : Type} {x : Option (α1 × α2 × α3 × α4 × α5 × α6 × α7 × α8)} {f : α1 → α2 → α3 → α4 → α5 → α6 → α7 → α8 → Option β} {r : β} (h : x.bind (fun z => un8 z f) = some r) : ∃ a1 a2 a3 a4 a5 a6 a7 a8, x = some (a1, a2, a3, a4, a5, a6, a7, a8) ∧ f a1 a2 a3 a4 a5 a6 a7 a8 = some r := by
  obtain ⟨⟨a1, a2, a3, a4, a5, a6, a7, a8⟩, h1, h2⟩ := oc_bind h
  exact ⟨a1, a2, a3, a4, a5, a6, a7, a8, h1, h2⟩
def un9 {α1 α2 α3 α4 α5 α6 α7 α8 α9 β : Type} (z : α1 × α2 × α3 × α4 × α5 × α6 × α7 × α8 × α9) (f : α1 → α2 → α3 → α4 → α5 → α6 → α7 → α8 → α9 → β) : β := f z.1 z.2.1 z.2.2.1 z.2.2.2.1 z.2.2.2.2.1 z.2.2.2.2.2.1 z.2.2.2.2.2.2.1 z.2.2.2.2.2.2.2.1 z.2.2.2.2.2.2.2.2
theorem oc_b9 {α1 α2 α3 α4 α5 α6 α7 α8 α9 β : Type} {x : Option (α1 × α2 × α3 × α4 × α5 × α6 × α7 × α8 × α9)} {f : α1 → α2 → α3 → α4 → α5 → α6 → α7 → α8 → α9 → Option β} {r : β} (h : x.bind (fun z => un9 z f) = some r) : ∃ a1 a2 a3 a4 a5 a6 a7 a8 a9, x = some (a1, a2, a3, a4, a5, a6, a7, a8, a9) ∧ f a1 a2 a3 a4 a5 a6 a7 a8 a9 = some r := by
  obtain ⟨⟨a1, a2, a3, a4, a5, a6, a7, a8, a9⟩, h1, h2⟩ := oc_bind h
  exact ⟨a1, a2, a3, a4, a5, a6, a7, a8, a9, h1, h2⟩
def un10 {α1 α2 α3 α4 α5 α6 α7 α8 α9 α10 β : Type} (z : α1 × α2 × α3 × α4 × α5 × α6 × α7 × α8 × α9 × α10) (f : α1 → α2 → α3 → α4 → α5 → α6 → α7 → α8 → α9 → α10 → β) : β := f z.1 z.2.1 z.2.2.1 z.2.2.2.1 z.2.2.2.2.1 z.2.2.2.2.2.1 z.2.2.2.2.2.2.1 z.2.2.2.2.2.2.2.1 z.2.2.2.2.2.2.2.2.1 z.2.2.2.2.2.2.2.2.2
theorem oc_b10 {α1 α2 α3 α4 α5 α6 α7 α8 α9 α10 β : Type} {x : Option (α1 × α2 × α3 × α4 × α5 × α6 × α7 × α8 × α9 × α10)} {f : α1 → α2 → α3 → α4 → α5 → α6 → α7 → α8 → α9 → α10 → Option β} {r : β} (h : x.bind (fun z => un10 z f) = some r) : ∃ a1 a2 a3 a4 a5 a6 a7 a8 a9 a10, x = some (a1, a2, a3, a4, a5, a6, a7, a8, a9, a10) ∧ f a1 a2 a3 a4 a5 a6 a7 a8 a9 a10 = some r := by
  obtain ⟨⟨a1, a2, a3, a4, a5, a6, a7, a8, a9, a10⟩, h1, h2⟩ := oc_bind h
  exact ⟨a1, a2, a3, a4, a5, a6, a7, a8, a9, a10, h1, h2⟩
def un11 {α1 α2 α3 α4 α5 α6 α7 α8 α9 α10 α11 β : Type} (z : α1 × α2 × α3 × α4 × α5 × α6 × α7 × α8 × α9 × α10 × α11) (f : α1 → α2 → α3 → α4 → α5 → α6 → α7 → α8 → α9 → α10 → α11 → β) : β := f z.1 z.2.1 z.2.2.1 z.2.2.2.1 z.2.2.2.2.1 z.2.2.2.2.2.1 z.2.2.2.2.2.2.1 z.2.2.2.2.2.2.2.1 z.2.2.2.2.2.2.2.2.1 z.2.2.2.2.2.2.2.2.2.1 z.2.2.2.2.2.2.2.2.2.2
theorem oc_b11 {α1 α2 α3 α4 α5 α6 α7 α8 α9 α10 α11 β : Type} {x : Option (α1 × α2 × α3 × α4 × α5 × α6 × α7 × α8 × α9 × α10 × α11)} {f : α1 → α2 → α3 → α4 → α5 → α6 → α7 → α8 → α9 → α10 → α11 → Option β} {r : β} (h : x.bind (fun z => un11 z f) = some r) : ∃ a1 a2 a3 a4 a5 a6 a7 a8 a9 a10 a11, x = some (a1, a2, a3, a4, a5, a6, a7, a8, a9, a10, a11) ∧ f a1 a2 a3 a4 a5 a6 a7 a8 a9 a10 a11 = some r := by
  obtain ⟨⟨a1, a2, a3, a4, a5, a6, a7, a8, a9, a10, a11⟩, h1, h2⟩ := oc_bind h
  exact ⟨a1, a2, a3, a4, a5, a6, a7, a8, a9, a10, a11, h1, h2⟩
def un12 {α1 α2 α3 α4 α5 α6 α7 α8 α9 α10 α11 α12 β : Type} (z : α1 × α2 × α3 × α4 × α5 × α6 × α7 × α8 × α9 × α10 × α11 × α12) (f : α1 → α2 → α3 → α4 → α5 → α6 → α7 → α8 → α9 → α10 → α11 → α12 → β) : β := f z.1 z.2.1 z.2.2.1 z.2.2.2.1 z.2.2.2.2.1 z.2.2.2.2.2.1 z.2.2.2.2.2.2.1 z.2.2.2.2.2.2.2.1 z.2.2.2.2.2.2.2.2.1 z.2.2.2.2.2.2.2.2.2.1 z.2.2.2.2.2.2.2.2.2.2.1 z.2.2.2.2.2.2.2.2.2.2.2
theorem oc_b12 {α1 α2 α3 α4 α5 α6 α7 α8 α9 α10 α11 α12 β : Type} {x : Option (α1 × α2 × α3 × α4 × α5 × α6 × α7 × α8 × α9 × α10 × α11 × α12)} {f : α1 → α2 → α3 → α4 → α5 → α6 → α7 → α8 → α9 → α10 → α11 → α12 → Option β} {r : β} (h : x.bind (fun z => un12 z f) = some r) : ∃ a1 a2 a3 a4 a5 a6 a7 a8 a9 a10 a11 a12, x = some (a1, a2, a3, a4, a5, a6, a7, a8, a9, a10, a11, a12) ∧ f a1 a2 a3 a4 a5 a6 a7 a8 a9 a10 a11 a12 = some r := by
  obtain ⟨⟨a1, a2, a3, a4, a5, a6, a7, a8, a9, a10, a11, a12⟩, h1, h2⟩ := oc_bind h
  exact ⟨a1, a2, a3, a4, a5, a6, a7, a8, a9, a10, a11, a12, h1, h2⟩
