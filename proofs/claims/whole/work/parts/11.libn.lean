/-! CONSTRUCTORS: cells that come -/
abbrev kMetN (l : Launch) (y : MethodName) (cc : ByteArray) (n : Nat) (rm : Room) (D : va_G) (T : List (ClassId × FieldType)) (As : List Value) (ws : va_W) (sz : Nat) (B : (Nat → Prop) → State → Prop) (mc ms : Nat) : Prop := Met l y (ws_ y cc n none) rm (va_Pc As (kPre D T ws sz)) (va_Qv (fun _ : Unit => True) (fun _ t => B (va_A ws sz) t) (va_A ws sz)) mc ms (va_A ws sz)
theorem kEnterN {l : Launch} {y : MethodName} {cc : ByteArray} {maxL : Nat} {rm : Room} {D : va_G} {T : List (ClassId × FieldType)} {As : List Value} {ws : va_W} {sz : Nat} {B : (Nat → Prop) → State → Prop} {mc ms : Nat} {lv : List (Nat × Value)} {own : String} (hy : plainName y.cls = true) (ho : y.cls = own) (hlen : (lg_sl As).length ≤ maxL) (hlv : lv_args 0 As = lv)
    (body : ∀ (p : Program) (e : Env) (s : State) (m : MethodId) (below : List Frame) (meth : Method) (c : Code), sz = s.heap.size → meth.name = y.name → kC p s m As.toArray meth c D T cc none maxL own (va_A ws sz) → va_P D vwCl ws s.heap → va_D (va_A ws sz) ws → ∀ ls : Array Slot, lv_has ls maxL lv → W p l e rm s m As.toArray below meth c s.heap [] 0 0 (MQ below (va_Qv (fun _ : Unit => True) (fun _ t => B (va_A ws sz) t) (va_A ws sz)) As.toArray s mc ms (va_A ws sz)) (F0 m 0 ls [])) : kMetN l y cc maxL rm D T As ws sz B mc ms := by
  subst ho
  refine Met.ofW (cc := cc) (maxL := maxL) (ret := none) hy rfl ?_
  intro p e s m args below meth c s₁ B0 hml hv
  obtain ⟨rfl, hsz, hP, hK, hD0, hN, hF⟩ := hv
  have hts := atoms_spec (ws := ws_ y cc maxL none) B0.pre
  have hl := lv_entry As (n := maxL) hlen
  rw [hlv] at hl
  rw [lg_entry_eq]
  exact body p e s m below meth c hsz.symm (name_of_methodNamed B0.named B0.method).1 ⟨B0.exec, B0.bytes, B0.returns, hml, findClass_of_methodNamed B0.named, fun w h => hts w (List.mem_cons_of_mem _ h), hK, hN, fun q h => Or.inr (by rw [← hsz]; exact h), B0.notSynchronized, hF⟩ hP hD0.self _ hl
section KN
variable {p : Program} {l : Launch} {e : Env} {R : Room} {s : State} {m : MethodId} {args : Array Value} {below : List Frame} {meth : Method} {c : Code} {H : Heap} {locs : List Loc} {cells slots : Nat} {Q : State → Prop} {D : va_G} {T : List (ClassId × FieldType)} {cc : ByteArray} {rt : Option FieldType} {nL : Nat} {own : String} {A : Nat → Prop} {ws wc : va_W} {pc : Nat} {ls : Array Slot} {rest st0 : List Value}
theorem kNewa {atype : ArrayType} {ty : FieldType} {cX : ClassId} (hexec : p.tables.exec = Jvm.exec) (hb : c.code = cc) (harr : (Cond.arrayClass (newarray.typeOf atype)).before args s = true) (hty : newarray.typeOf atype = ty) (hK : va_K D vwCl T s) (t0 : Nat) (ht : T[t0]? = some (cX, ty)) (hno : ∀ C, ty ≠ .object C) (hP : va_P D vwCl ws H) (hD : va_D A ws) (hS : va_S A s.heap H locs) (hA : ∀ q, s.heap.size ≤ q → A q)
    {n : Int32} (N' : Nat) (a0 : vp_A) (ha : ∀ cA : ClassId, vp_cell cA a0 = arrV cA N' (fun _ => defaultValue ty)) (hn : ¬ n < 0) (hN : n.toNatClampNeg = N') (hbytes : N' * componentBytes ty ≤ 536870912) (hcells : cells + 1 ≤ R.cells) (hslots : slots + N' ≤ R.slots) (hdg : decode cc pc = .ok (.newarray atype, 2))
    (kk : ∀ (q : Nat) (H1 : Heap), va_P D vwCl (ws ++ [(q, .inl (cX, a0))]) H1 → va_D A (ws ++ [(q, .inl (cX, a0))]) → va_S A s.heap H1 locs →
      W p l e R s m args below meth c H1 locs (cells + 1) (slots + N') Q (F0 m (pc + 2) ls (.ref q :: rest))) : W p l e R s m args below meth c H locs cells slots Q (F0 m pc ls (.int n :: rest)) := by
  refine va_newa hexec hb harr hty hK hP hD hS hA ha hn hN hbytes hcells hslots hdg (fun q cA H1 hK1 hP1 hD1 hS1 => ?_)
  have h1 := (hK1.2 T.length (cA, ty) (by simp)).2
  have h2 := (hK.2 t0 _ ht).2
  have e : cA = cX := by
    cases ty with
    | object C => exact absurd rfl (hno C)
    | _ =>
      dsimp only [va_RA] at h1 h2
      rw [h2] at h1
      exact (Option.some.inj h1).symm
  subst e
  exact kk q H1 hP1 hD1 hS1
variable {y : MethodName} {bytes : ByteArray} {maxL n index ci NN mc ms : Nat} {rm : Room} {Qc : Array Value → State → Outcome → State → Prop} {b : Addr} {As : List Value} {B : (Nat → Prop) → State → Prop}
theorem kPsN (C0 : kC p s m args meth c D T cc rt nL own A) (hP : va_P D vwCl ws H) (hD : va_D A ws) (hS : va_S A s.heap H locs) (isC : List Nat) (hC : isC.map (fun i => ws[i]?) = wc.map some) (hn1 : va_nd isC = true) : ∀ U : State, U.heap = H → s.WarmedH U.vm → va_Pc As (kPre D T wc H.size) As.toArray U := by
  have hPc := hP.sub (ws' := wc) isC (kPick hC)
  have hDc := hD.sub (ws' := wc) isC hn1 hC
  have hFc : ∀ q, va_A wc H.size q → A q := va_free (wc := wc) hD hS C0.2.2.2.2.2.2.2.2.1 isC hC
  exact kPs C0 hPc hDc hS hFc
theorem kIN (C0 : kC p s m args meth c D T cc rt nL own A) (hP : va_P D vwCl ws H) (hD : va_D A ws) (hS : va_S A s.heap H locs) (isC : List Nat) (hC : isC.map (fun i => ws[i]?) = wc.map some) (hn1 : va_nd isC = true) (hM : kMetN l y bytes maxL rm D T (.ref b :: As) wc H.size B mc ms) (hc : Cond.code y bytes maxL none ∈ wsL_law) (hl : va_Nw (.methodLinkNest own index y "LampShares") s) (hi : Cond.instanceMethod y ∈ wsL_law) (hini : Cond.initialized y.cls ∈ wsL_law) (hy1 : y.name = "<init>") (hd : kD y n) (hR : rm.frames + 1 ≤ R.frames ∧ 8 + (maxL + 11) + rm.locals ≤ R.locals ∧ rm.cells = mc ∧ rm.slots = ms) (hn : As.length = n) (hls : ls.size = nL) (hst : st0 = As.reverse ++ .ref b :: rest) (hrest : (rest.map fun v => v.category).sum ≤ 8) (hcl : cells + mc ≤ R.cells ∧ slots + ms ≤ R.slots) (hdg : decode cc pc = .ok (.invokespecial index, 3)) : va_Run p l e R s m args below meth c H locs cells slots mc ms (F0 m pc ls st0) rest (va_Qv (fun _ : Unit => True) (fun _ t => B (va_A wc H.size) t) (va_A wc H.size) (Value.ref b :: As).toArray) (va_A wc H.size) := by
  subst hst
  have hps := kPsN (As := .ref b :: As) C0 hP hD hS isC hC hn1
  obtain ⟨hx, hb, hr, hml, hown, hts, hK, hN, hA, hlocks, hF⟩ := C0
  exact va_runIN (As := As) (rest := rest) ⟨hx, hb, hml, hown, hts⟩ hM ⟨va_cnB n hts (good_ws hc) rfl hR.2.2.1 hR.2.2.2 hl (hts _ hini) hd ⟨hR.1, hR.2.1⟩, hy1, hts _ hi⟩ ⟨kPre_blind, hps⟩ rfl hn hls rfl (lv_room hrest) hdg hcl
theorem kII (C0 : kC p s m args meth c D T cc rt nL own A) (hP : va_P D vwCl ws H) (hD : va_D A ws) (hS : va_S A s.heap H locs) (isC : List Nat) (hC : isC.map (fun i => ws[i]?) = wc.map some) (hn1 : va_nd isC = true) (hM : kMetN l y bytes maxL rm D T (.ref b :: As) wc H.size B mc ms) (hc : Cond.code y bytes maxL none ∈ wsL_law) (hl : Cond.methodLink own index y ∈ wsL_law) (hi : Cond.instanceMethod y ∈ wsL_law) (hini : Cond.initialized y.cls ∈ wsL_law) (hy1 : y.name = "<init>") (hd : kD y n) (hR : rm.frames + 1 ≤ R.frames ∧ 8 + (maxL + 11) + rm.locals ≤ R.locals ∧ rm.cells = mc ∧ rm.slots = ms) (hn : As.length = n) (hls : ls.size = nL) (hst : st0 = As.reverse ++ .ref b :: rest) (hrest : (rest.map fun v => v.category).sum ≤ 8) (hcl : cells + mc ≤ R.cells ∧ slots + ms ≤ R.slots) (hdg : decode cc pc = .ok (.invokespecial index, 3)) : va_Run p l e R s m args below meth c H locs cells slots mc ms (F0 m pc ls st0) rest (va_Qv (fun _ : Unit => True) (fun _ t => B (va_A wc H.size) t) (va_A wc H.size) (Value.ref b :: As).toArray) (va_A wc H.size) := by
  subst hst
  have hps := kPsN (As := .ref b :: As) C0 hP hD hS isC hC hn1
  obtain ⟨hx, hb, hr, hml, hown, hts, hK, hN, hA, hlocks, hF⟩ := C0
  exact va_runI (As := As) (rest := rest) ⟨hx, hb, hml, hown, hts⟩ hM ⟨callB_of n hts (good_ws hc) rfl hR.2.2.1 hR.2.2.2 (hts _ hini) (hts _ hl) hd ⟨hR.1, hR.2.1⟩, hy1, hts _ hi⟩ ⟨kPre_blind, hps⟩ rfl hn hls rfl (lv_room hrest) hdg hcl
/-- behind a constructor: what it says holds, the rest is as it was -/
theorem kgoN {a : Array Value} (C0 : kC p s m args meth c D T cc rt nL own A) (hP : va_P D vwCl ws H) (hD : va_D A ws) (hS : va_S A s.heap H locs) (isC isR : List Nat) (wr : va_W) (hC : isC.map (fun i => ws[i]?) = wc.map some) (hRr : isR.map (fun i => ws[i]?) = wr.map some) (hn : va_nd isR = true) (hdis : ∀ i ∈ isR, i ∉ isC)
    (hr : va_Run p l e R s m args below meth c H locs cells slots mc ms (F0 m pc ls st0) rest (va_Qv (fun _ : Unit => True) (fun _ t => B (va_A wc H.size) t) (va_A wc H.size) a) (va_A wc H.size)) (k : ∀ (t : State) (H1 : Heap) (locs1 : List Loc), t.heap = H1 → B (va_A wc H.size) t → (∀ w1 : va_W, va_P D vwCl w1 H1 → va_D (va_A wc H.size) w1 → va_P D vwCl (wr ++ w1) H1 ∧ va_D A (wr ++ w1)) → va_S A s.heap H1 locs1 → W p l e R s m args below meth c H1 locs1 (cells + mc) (slots + ms) Q (F0 m (pc + 3) ls rest)) : W p l e R s m args below meth c H locs cells slots Q (F0 m pc ls st0) := by
  obtain ⟨hx, hb, hr0, hml, hown, hts, hK, hN, hA, hlocks, hF⟩ := C0
  have hFc := va_free (wc := wc) hD hS hA isC hC
  refine va_callv hr hS (fun q _ h => hFc q h) hFc (fun u t H1 locs1 ht hvm hw hB hz1 hk1 hS1 => ?_)
  exact k t H1 locs1 ht hB (fun w1 hP1 hD1 => va_join hP hD isC isR hC hRr hn hdis hk1 hFc hP1 hD1) hS1
end KN
