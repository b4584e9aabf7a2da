abbrev WD0 (cI cC cZ : ClassId) : va_W := []
abbrev rm_J6_bitCount : Room := { frames := 0, cells := 0, slots := 0, locals := 0 }
noncomputable def f_J6_bitCount  (p0 : Int32) : Option (Int32) := nm_ (p0 - (((Int32.toUInt32 p0 >>> (Int32.toUInt32 (1 : Int32) &&& Int32.toUInt32 31)).toInt32) &&& (1431655765 : Int32))) (fun t1 => nm_ ((t1 &&& (858993459 : Int32)) + (((Int32.toUInt32 t1 >>> (Int32.toUInt32 (2 : Int32) &&& Int32.toUInt32 31)).toInt32) &&& (858993459 : Int32))) (fun t2 => nm_ ((t2 + ((Int32.toUInt32 t2 >>> (Int32.toUInt32 (4 : Int32) &&& Int32.toUInt32 31)).toInt32)) &&& (252645135 : Int32)) (fun t3 => nm_ (t3 + ((Int32.toUInt32 t3 >>> (Int32.toUInt32 (8 : Int32) &&& Int32.toUInt32 31)).toInt32)) (fun t4 => nm_ (t4 + ((Int32.toUInt32 t4 >>> (Int32.toUInt32 (16 : Int32) &&& Int32.toUInt32 31)).toInt32)) (fun t5 => some (t5 &&& (63 : Int32)))))))
set_option maxHeartbeats 4000000 in
set_option maxRecDepth 100000 in
theorem c_J6_bitCount (l : Launch) (D : va_G) (cI cC cZ : ClassId) (sz : Nat) (p0 : Int32) (rr : Int32) (hf : f_J6_bitCount p0 = some rr) : kMet l yJ6_bitCount_0f7a4 cJ6_bitCount_0f7a4 1 (some .int) rm_J6_bitCount D (kTY cI cC cZ) [.int p0] (WD0 cI cC cZ) sz (kQI D (kTY cI cC cZ) (va_A (WD0 cI cC cZ) sz) rr (WD0 cI cC cZ)) := by
  refine kEnter (lv := [(0, .int p0)]) (own := RJ6) (by decide) rfl (Nat.le_of_ble_eq_true rfl) rfl ?_
  intro p e s m below meth c hsz C0 hP hD hS ls hl
  generalize (va_A (WD0 cI cC cZ) sz) = A at C0 hD hS ⊢
  clear hsz hS
  obtain ⟨H, hHs⟩ : ∃ H : Heap, H = s.heap := ⟨_, rfl⟩
  have hS : va_S A s.heap H [] := by rw [hHs]; exact va_S.rf
  rw [← hHs] at hP ⊢
  obtain ⟨hx, hb, hr, hml, hown, hts, hK, hN, hA, hlocks, hF⟩ := id C0
  have h := hf
  unfold f_J6_bitCount at h
  refine lv_iload_n hx hb dJ6_bitCount_0f7a4_0 rfl (lv_at hl 0 rfl) ?_
  refine lv_iload_n hx hb dJ6_bitCount_0f7a4_1 rfl (lv_at hl 0 rfl) ?_
  refine lv_iconst (v := (1 : Int32)) hx hb dJ6_bitCount_0f7a4_2 (by decide) ?_
  refine lv_iushr hx hb dJ6_bitCount_0f7a4_3 rfl ?_
  refine lv_ldcw (v := (1431655765 : Int32)) hx hb hown (hts _ kw_448) dJ6_bitCount_0f7a4_4 ?_
  refine lv_iand hx hb dJ6_bitCount_0f7a4_7 ?_
  refine lv_isub hx hb dJ6_bitCount_0f7a4_8 ?_
  refine lv_topi (fun t1 e_t1 => ?_)
  have h := oc_nm e_t1 h
  refine lv_istore_n (lv' := [(0, .int t1)]) hx hb dJ6_bitCount_0f7a4_9 rfl hl (by decide) rfl (fun ls hl => ?_)
  refine lv_iload_n hx hb dJ6_bitCount_0f7a4_10 rfl (lv_at hl 0 rfl) ?_
  refine lv_ldcw (v := (858993459 : Int32)) hx hb hown (hts _ kw_449) dJ6_bitCount_0f7a4_11 ?_
  refine lv_iand hx hb dJ6_bitCount_0f7a4_14 ?_
  refine lv_iload_n hx hb dJ6_bitCount_0f7a4_15 rfl (lv_at hl 0 rfl) ?_
  refine lv_iconst (v := (2 : Int32)) hx hb dJ6_bitCount_0f7a4_16 (by decide) ?_
  refine lv_iushr hx hb dJ6_bitCount_0f7a4_17 rfl ?_
  refine lv_ldcw (v := (858993459 : Int32)) hx hb hown (hts _ kw_449) dJ6_bitCount_0f7a4_18 ?_
  refine lv_iand hx hb dJ6_bitCount_0f7a4_21 ?_
  refine lv_iadd hx hb dJ6_bitCount_0f7a4_22 ?_
  refine lv_topi (fun t2 e_t2 => ?_)
  have h := oc_nm e_t2 h
  refine lv_istore_n (lv' := [(0, .int t2)]) hx hb dJ6_bitCount_0f7a4_23 rfl hl (by decide) rfl (fun ls hl => ?_)
  refine lv_iload_n hx hb dJ6_bitCount_0f7a4_24 rfl (lv_at hl 0 rfl) ?_
  refine lv_iload_n hx hb dJ6_bitCount_0f7a4_25 rfl (lv_at hl 0 rfl) ?_
  refine lv_iconst (v := (4 : Int32)) hx hb dJ6_bitCount_0f7a4_26 (by decide) ?_
  refine lv_iushr hx hb dJ6_bitCount_0f7a4_27 rfl ?_
  refine lv_iadd hx hb dJ6_bitCount_0f7a4_28 ?_
  refine lv_ldcw (v := (252645135 : Int32)) hx hb hown (hts _ kw_450) dJ6_bitCount_0f7a4_29 ?_
  refine lv_iand hx hb dJ6_bitCount_0f7a4_32 ?_
  refine lv_topi (fun t3 e_t3 => ?_)
  have h := oc_nm e_t3 h
  refine lv_istore_n (lv' := [(0, .int t3)]) hx hb dJ6_bitCount_0f7a4_33 rfl hl (by decide) rfl (fun ls hl => ?_)
  refine lv_iload_n hx hb dJ6_bitCount_0f7a4_34 rfl (lv_at hl 0 rfl) ?_
  refine lv_iload_n hx hb dJ6_bitCount_0f7a4_35 rfl (lv_at hl 0 rfl) ?_
  refine lv_bipush (v := (8 : Int32)) hx hb dJ6_bitCount_0f7a4_36 (by decide) ?_
  refine lv_iushr hx hb dJ6_bitCount_0f7a4_38 rfl ?_
  refine lv_iadd hx hb dJ6_bitCount_0f7a4_39 ?_
  refine lv_topi (fun t4 e_t4 => ?_)
  have h := oc_nm e_t4 h
  refine lv_istore_n (lv' := [(0, .int t4)]) hx hb dJ6_bitCount_0f7a4_40 rfl hl (by decide) rfl (fun ls hl => ?_)
  refine lv_iload_n hx hb dJ6_bitCount_0f7a4_41 rfl (lv_at hl 0 rfl) ?_
  refine lv_iload_n hx hb dJ6_bitCount_0f7a4_42 rfl (lv_at hl 0 rfl) ?_
  refine lv_bipush (v := (16 : Int32)) hx hb dJ6_bitCount_0f7a4_43 (by decide) ?_
  refine lv_iushr hx hb dJ6_bitCount_0f7a4_45 rfl ?_
  refine lv_iadd hx hb dJ6_bitCount_0f7a4_46 ?_
  refine lv_topi (fun t5 e_t5 => ?_)
  have h := oc_nm e_t5 h
  refine lv_istore_n (lv' := [(0, .int t5)]) hx hb dJ6_bitCount_0f7a4_47 rfl hl (by decide) rfl (fun ls hl => ?_)
  refine lv_iload_n hx hb dJ6_bitCount_0f7a4_48 rfl (lv_at hl 0 rfl) ?_
  refine lv_bipush (v := (63 : Int32)) hx hb dJ6_bitCount_0f7a4_49 (by decide) ?_
  refine lv_iand hx hb dJ6_bitCount_0f7a4_51 ?_
  cases h
  exact kret_i C0 hP hD hS rfl dJ6_bitCount_0f7a4_52
abbrev rm_J6_numberOfTrailingZeros : Room := { frames := 0, cells := 0, slots := 0, locals := 0 }
noncomputable def bk_J6_numberOfTrailingZeros_62  (p0 : Int32) (p1 : Int32) : Option (Int32) := if p0 ≤ (4 : Int32) then (some (p1 + ((Int32.toUInt32 p0 >>> (Int32.toUInt32 (1 : Int32) &&& Int32.toUInt32 31)).toInt32))) else (nm_ (p1 + (2 : Int32)) (fun t2 => nm_ ((Int32.toUInt32 p0 >>> (Int32.toUInt32 (2 : Int32) &&& Int32.toUInt32 31)).toInt32) (fun t3 => some (t2 + ((Int32.toUInt32 t3 >>> (Int32.toUInt32 (1 : Int32) &&& Int32.toUInt32 31)).toInt32)))))
set_option maxHeartbeats 4000000 in
set_option maxRecDepth 100000 in
theorem wk_J6_numberOfTrailingZeros_62 {p : Program} {l : Launch} {e : Env} {s : State} {m : MethodId} {args : Array Value} {below : List Frame} {meth : Method} {c : Code} {D : va_G} {cI cC cZ : ClassId} {A : Nat → Prop} {p0 : Int32} {p1 : Int32}  {rr : Int32} (C0 : kC p s m args meth c D (kTY cI cC cZ) cJ6_numberOfTrailingZeros_0f7a4 (some .int) 2 RJ6 A)  (h : bk_J6_numberOfTrailingZeros_62  p0 p1 = some rr) {H : Heap} {locs : List Loc} (hP : va_P D vwCl (WD0 cI cC cZ) H) (hD : va_D A (WD0 cI cC cZ)) (hS : va_S A s.heap H locs) {ls : Array Slot} (hl : lv_has ls 2 [(0, .int p0), (1, .int p1)]) : W p l e rm_J6_numberOfTrailingZeros s m args below meth c H locs 0 0 (MQ below (kQI D (kTY cI cC cZ) A rr (WD0 cI cC cZ)) args s 0 0 A) (F0 m 62 ls []) := by
  obtain ⟨hx, hb, hr, hml, hown, hts, hK, hN, hA, hlocks, hF⟩ := id C0
  unfold bk_J6_numberOfTrailingZeros_62 at h
  refine lv_iload_n hx hb dJ6_numberOfTrailingZeros_0f7a4_62 rfl (lv_at hl 0 rfl) ?_
  refine lv_iconst (v := (4 : Int32)) hx hb dJ6_numberOfTrailingZeros_0f7a4_63 (by decide) ?_
  refine lv_icmp_le (tgt := 74) hx hb dJ6_numberOfTrailingZeros_0f7a4_64 (by decide) (fun c1 => ?_) (fun c1 => ?_)
  · have h := oc_t c1 h
    refine lv_iload_n hx hb dJ6_numberOfTrailingZeros_0f7a4_74 rfl (lv_at hl 1 rfl) ?_
    refine lv_iload_n hx hb dJ6_numberOfTrailingZeros_0f7a4_75 rfl (lv_at hl 0 rfl) ?_
    refine lv_iconst (v := (1 : Int32)) hx hb dJ6_numberOfTrailingZeros_0f7a4_76 (by decide) ?_
    refine lv_iushr hx hb dJ6_numberOfTrailingZeros_0f7a4_77 rfl ?_
    refine lv_iadd hx hb dJ6_numberOfTrailingZeros_0f7a4_78 ?_
    cases h
    exact kret_i C0 hP hD hS rfl dJ6_numberOfTrailingZeros_0f7a4_79
  · have h := oc_f c1 h
    obtain ⟨t2, e_t2⟩ : ∃ y : Int32, y = p1 + (2 : Int32) := ⟨_, rfl⟩
    have h := oc_nm e_t2 h
    refine lv_iinc (v := t2) (lv' := [(1, .int t2), (0, .int p0)]) hx hb dJ6_numberOfTrailingZeros_0f7a4_67 hl (k := 1) rfl (by rw [e_t2]; rfl) (by decide) rfl (fun ls hl => ?_)
    refine lv_iload_n hx hb dJ6_numberOfTrailingZeros_0f7a4_70 rfl (lv_at hl 1 rfl) ?_
    refine lv_iconst (v := (2 : Int32)) hx hb dJ6_numberOfTrailingZeros_0f7a4_71 (by decide) ?_
    refine lv_iushr hx hb dJ6_numberOfTrailingZeros_0f7a4_72 rfl ?_
    refine lv_topi (fun t3 e_t3 => ?_)
    have h := oc_nm e_t3 h
    refine lv_istore_n (lv' := [(0, .int t3), (1, .int t2)]) hx hb dJ6_numberOfTrailingZeros_0f7a4_73 rfl hl (by decide) rfl (fun ls hl => ?_)
    refine lv_iload_n hx hb dJ6_numberOfTrailingZeros_0f7a4_74 rfl (lv_at hl 1 rfl) ?_
    refine lv_iload_n hx hb dJ6_numberOfTrailingZeros_0f7a4_75 rfl (lv_at hl 0 rfl) ?_
    refine lv_iconst (v := (1 : Int32)) hx hb dJ6_numberOfTrailingZeros_0f7a4_76 (by decide) ?_
    refine lv_iushr hx hb dJ6_numberOfTrailingZeros_0f7a4_77 rfl ?_
    refine lv_iadd hx hb dJ6_numberOfTrailingZeros_0f7a4_78 ?_
    cases h
    exact kret_i C0 hP hD hS rfl dJ6_numberOfTrailingZeros_0f7a4_79
noncomputable def bk_J6_numberOfTrailingZeros_49  (p0 : Int32) (p1 : Int32) : Option (Int32) := if p0 ≤ (16 : Int32) then (bk_J6_numberOfTrailingZeros_62  p0 p1) else (nm_ (p1 + (4 : Int32)) (fun t2 => nm_ ((Int32.toUInt32 p0 >>> (Int32.toUInt32 (4 : Int32) &&& Int32.toUInt32 31)).toInt32) (fun t3 => bk_J6_numberOfTrailingZeros_62  t3 t2)))
set_option maxHeartbeats 4000000 in
set_option maxRecDepth 100000 in
theorem wk_J6_numberOfTrailingZeros_49 {p : Program} {l : Launch} {e : Env} {s : State} {m : MethodId} {args : Array Value} {below : List Frame} {meth : Method} {c : Code} {D : va_G} {cI cC cZ : ClassId} {A : Nat → Prop} {p0 : Int32} {p1 : Int32}  {rr : Int32} (C0 : kC p s m args meth c D (kTY cI cC cZ) cJ6_numberOfTrailingZeros_0f7a4 (some .int) 2 RJ6 A)  (h : bk_J6_numberOfTrailingZeros_49  p0 p1 = some rr) {H : Heap} {locs : List Loc} (hP : va_P D vwCl (WD0 cI cC cZ) H) (hD : va_D A (WD0 cI cC cZ)) (hS : va_S A s.heap H locs) {ls : Array Slot} (hl : lv_has ls 2 [(0, .int p0), (1, .int p1)]) : W p l e rm_J6_numberOfTrailingZeros s m args below meth c H locs 0 0 (MQ below (kQI D (kTY cI cC cZ) A rr (WD0 cI cC cZ)) args s 0 0 A) (F0 m 49 ls []) := by
  obtain ⟨hx, hb, hr, hml, hown, hts, hK, hN, hA, hlocks, hF⟩ := id C0
  unfold bk_J6_numberOfTrailingZeros_49 at h
  refine lv_iload_n hx hb dJ6_numberOfTrailingZeros_0f7a4_49 rfl (lv_at hl 0 rfl) ?_
  refine lv_bipush (v := (16 : Int32)) hx hb dJ6_numberOfTrailingZeros_0f7a4_50 (by decide) ?_
  refine lv_icmp_le (tgt := 62) hx hb dJ6_numberOfTrailingZeros_0f7a4_52 (by decide) (fun c1 => ?_) (fun c1 => ?_)
  · have h := oc_t c1 h
    exact wk_J6_numberOfTrailingZeros_62 C0  h hP hD hS (lv_sub hl [0, 1] rfl)
  · have h := oc_f c1 h
    obtain ⟨t2, e_t2⟩ : ∃ y : Int32, y = p1 + (4 : Int32) := ⟨_, rfl⟩
    have h := oc_nm e_t2 h
    refine lv_iinc (v := t2) (lv' := [(1, .int t2), (0, .int p0)]) hx hb dJ6_numberOfTrailingZeros_0f7a4_55 hl (k := 1) rfl (by rw [e_t2]; rfl) (by decide) rfl (fun ls hl => ?_)
    refine lv_iload_n hx hb dJ6_numberOfTrailingZeros_0f7a4_58 rfl (lv_at hl 1 rfl) ?_
    refine lv_iconst (v := (4 : Int32)) hx hb dJ6_numberOfTrailingZeros_0f7a4_59 (by decide) ?_
    refine lv_iushr hx hb dJ6_numberOfTrailingZeros_0f7a4_60 rfl ?_
    refine lv_topi (fun t3 e_t3 => ?_)
    have h := oc_nm e_t3 h
    refine lv_istore_n (lv' := [(0, .int t3), (1, .int t2)]) hx hb dJ6_numberOfTrailingZeros_0f7a4_61 rfl hl (by decide) rfl (fun ls hl => ?_)
    exact wk_J6_numberOfTrailingZeros_62 C0  h hP hD hS (lv_sub hl [0, 1] rfl)
noncomputable def bk_J6_numberOfTrailingZeros_34  (p0 : Int32) (p1 : Int32) : Option (Int32) := if p0 ≤ (256 : Int32) then (bk_J6_numberOfTrailingZeros_49  p0 p1) else (nm_ (p1 + (8 : Int32)) (fun t2 => nm_ ((Int32.toUInt32 p0 >>> (Int32.toUInt32 (8 : Int32) &&& Int32.toUInt32 31)).toInt32) (fun t3 => bk_J6_numberOfTrailingZeros_49  t3 t2)))
set_option maxHeartbeats 4000000 in
set_option maxRecDepth 100000 in
theorem wk_J6_numberOfTrailingZeros_34 {p : Program} {l : Launch} {e : Env} {s : State} {m : MethodId} {args : Array Value} {below : List Frame} {meth : Method} {c : Code} {D : va_G} {cI cC cZ : ClassId} {A : Nat → Prop} {p0 : Int32} {p1 : Int32}  {rr : Int32} (C0 : kC p s m args meth c D (kTY cI cC cZ) cJ6_numberOfTrailingZeros_0f7a4 (some .int) 2 RJ6 A)  (h : bk_J6_numberOfTrailingZeros_34  p0 p1 = some rr) {H : Heap} {locs : List Loc} (hP : va_P D vwCl (WD0 cI cC cZ) H) (hD : va_D A (WD0 cI cC cZ)) (hS : va_S A s.heap H locs) {ls : Array Slot} (hl : lv_has ls 2 [(0, .int p0), (1, .int p1)]) : W p l e rm_J6_numberOfTrailingZeros s m args below meth c H locs 0 0 (MQ below (kQI D (kTY cI cC cZ) A rr (WD0 cI cC cZ)) args s 0 0 A) (F0 m 34 ls []) := by
  obtain ⟨hx, hb, hr, hml, hown, hts, hK, hN, hA, hlocks, hF⟩ := id C0
  unfold bk_J6_numberOfTrailingZeros_34 at h
  refine lv_iload_n hx hb dJ6_numberOfTrailingZeros_0f7a4_34 rfl (lv_at hl 0 rfl) ?_
  refine lv_sipush (v := (256 : Int32)) hx hb dJ6_numberOfTrailingZeros_0f7a4_35 (by decide) ?_
  refine lv_icmp_le (tgt := 49) hx hb dJ6_numberOfTrailingZeros_0f7a4_38 (by decide) (fun c1 => ?_) (fun c1 => ?_)
  · have h := oc_t c1 h
    exact wk_J6_numberOfTrailingZeros_49 C0  h hP hD hS (lv_sub hl [0, 1] rfl)
  · have h := oc_f c1 h
    obtain ⟨t2, e_t2⟩ : ∃ y : Int32, y = p1 + (8 : Int32) := ⟨_, rfl⟩
    have h := oc_nm e_t2 h
    refine lv_iinc (v := t2) (lv' := [(1, .int t2), (0, .int p0)]) hx hb dJ6_numberOfTrailingZeros_0f7a4_41 hl (k := 1) rfl (by rw [e_t2]; rfl) (by decide) rfl (fun ls hl => ?_)
    refine lv_iload_n hx hb dJ6_numberOfTrailingZeros_0f7a4_44 rfl (lv_at hl 1 rfl) ?_
    refine lv_bipush (v := (8 : Int32)) hx hb dJ6_numberOfTrailingZeros_0f7a4_45 (by decide) ?_
    refine lv_iushr hx hb dJ6_numberOfTrailingZeros_0f7a4_47 rfl ?_
    refine lv_topi (fun t3 e_t3 => ?_)
    have h := oc_nm e_t3 h
    refine lv_istore_n (lv' := [(0, .int t3), (1, .int t2)]) hx hb dJ6_numberOfTrailingZeros_0f7a4_48 rfl hl (by decide) rfl (fun ls hl => ?_)
    exact wk_J6_numberOfTrailingZeros_49 C0  h hP hD hS (lv_sub hl [0, 1] rfl)
noncomputable def f_J6_numberOfTrailingZeros  (p0 : Int32) : Option (Int32) := nm_ ((p0 ^^^ (-1 : Int32)) &&& (p0 - (1 : Int32))) (fun t1 => if 0 < t1 then (if t1 ≤ (65536 : Int32) then (bk_J6_numberOfTrailingZeros_34  t1 (1 : Int32)) else (nm_ ((1 : Int32) + (16 : Int32)) (fun t4 => nm_ ((Int32.toUInt32 t1 >>> (Int32.toUInt32 (16 : Int32) &&& Int32.toUInt32 31)).toInt32) (fun t5 => bk_J6_numberOfTrailingZeros_34  t5 t4)))) else (some (t1 &&& (32 : Int32))))
set_option maxHeartbeats 4000000 in
set_option maxRecDepth 100000 in
theorem c_J6_numberOfTrailingZeros (l : Launch) (D : va_G) (cI cC cZ : ClassId) (sz : Nat) (p0 : Int32) (rr : Int32) (hf : f_J6_numberOfTrailingZeros p0 = some rr) : kMet l yJ6_numberOfTrailingZeros_0f7a4 cJ6_numberOfTrailingZeros_0f7a4 2 (some .int) rm_J6_numberOfTrailingZeros D (kTY cI cC cZ) [.int p0] (WD0 cI cC cZ) sz (kQI D (kTY cI cC cZ) (va_A (WD0 cI cC cZ) sz) rr (WD0 cI cC cZ)) := by
  refine kEnter (lv := [(0, .int p0)]) (own := RJ6) (by decide) rfl (Nat.le_of_ble_eq_true rfl) rfl ?_
  intro p e s m below meth c hsz C0 hP hD hS ls hl
  generalize (va_A (WD0 cI cC cZ) sz) = A at C0 hD hS ⊢
  clear hsz hS
  obtain ⟨H, hHs⟩ : ∃ H : Heap, H = s.heap := ⟨_, rfl⟩
  have hS : va_S A s.heap H [] := by rw [hHs]; exact va_S.rf
  rw [← hHs] at hP ⊢
  obtain ⟨hx, hb, hr, hml, hown, hts, hK, hN, hA, hlocks, hF⟩ := id C0
  have h := hf
  unfold f_J6_numberOfTrailingZeros at h
  refine lv_iload_n hx hb dJ6_numberOfTrailingZeros_0f7a4_0 rfl (lv_at hl 0 rfl) ?_
  refine lv_iconst (v := (-1 : Int32)) hx hb dJ6_numberOfTrailingZeros_0f7a4_1 (by decide) ?_
  refine lv_ixor hx hb dJ6_numberOfTrailingZeros_0f7a4_2 ?_
  refine lv_iload_n hx hb dJ6_numberOfTrailingZeros_0f7a4_3 rfl (lv_at hl 0 rfl) ?_
  refine lv_iconst (v := (1 : Int32)) hx hb dJ6_numberOfTrailingZeros_0f7a4_4 (by decide) ?_
  refine lv_isub hx hb dJ6_numberOfTrailingZeros_0f7a4_5 ?_
  refine lv_iand hx hb dJ6_numberOfTrailingZeros_0f7a4_6 ?_
  refine lv_topi (fun t1 e_t1 => ?_)
  have h := oc_nm e_t1 h
  refine lv_istore_n (lv' := [(0, .int t1)]) hx hb dJ6_numberOfTrailingZeros_0f7a4_7 rfl hl (by decide) rfl (fun ls hl => ?_)
  refine lv_iload_n hx hb dJ6_numberOfTrailingZeros_0f7a4_8 rfl (lv_at hl 0 rfl) ?_
  refine lv_if_gt (tgt := 17) hx hb dJ6_numberOfTrailingZeros_0f7a4_9 (by decide) (fun c2 => ?_) (fun c2 => ?_)
  · have h := oc_t c2 h
    refine lv_iconst (v := (1 : Int32)) hx hb dJ6_numberOfTrailingZeros_0f7a4_17 (by decide) ?_
    refine lv_istore_n (lv' := [(1, .int (1 : Int32)), (0, .int t1)]) hx hb dJ6_numberOfTrailingZeros_0f7a4_18 rfl hl (by decide) rfl (fun ls hl => ?_)
    refine lv_iload_n hx hb dJ6_numberOfTrailingZeros_0f7a4_19 rfl (lv_at hl 1 rfl) ?_
    refine lv_ldcw (v := (65536 : Int32)) hx hb hown (hts _ kw_420) dJ6_numberOfTrailingZeros_0f7a4_20 ?_
    refine lv_icmp_le (tgt := 34) hx hb dJ6_numberOfTrailingZeros_0f7a4_23 (by decide) (fun c3 => ?_) (fun c3 => ?_)
    · have h := oc_t c3 h
      exact wk_J6_numberOfTrailingZeros_34 C0  h hP hD hS (lv_sub hl [1, 0] rfl)
    · have h := oc_f c3 h
      obtain ⟨t4, e_t4⟩ : ∃ y : Int32, y = (1 : Int32) + (16 : Int32) := ⟨_, rfl⟩
      have h := oc_nm e_t4 h
      refine lv_iinc (v := t4) (lv' := [(1, .int t4), (0, .int t1)]) hx hb dJ6_numberOfTrailingZeros_0f7a4_26 hl (k := 0) rfl (by rw [e_t4]; rfl) (by decide) rfl (fun ls hl => ?_)
      refine lv_iload_n hx hb dJ6_numberOfTrailingZeros_0f7a4_29 rfl (lv_at hl 1 rfl) ?_
      refine lv_bipush (v := (16 : Int32)) hx hb dJ6_numberOfTrailingZeros_0f7a4_30 (by decide) ?_
      refine lv_iushr hx hb dJ6_numberOfTrailingZeros_0f7a4_32 rfl ?_
      refine lv_topi (fun t5 e_t5 => ?_)
      have h := oc_nm e_t5 h
      refine lv_istore_n (lv' := [(0, .int t5), (1, .int t4)]) hx hb dJ6_numberOfTrailingZeros_0f7a4_33 rfl hl (by decide) rfl (fun ls hl => ?_)
      exact wk_J6_numberOfTrailingZeros_34 C0  h hP hD hS (lv_sub hl [0, 1] rfl)
  · have h := oc_f c2 h
    refine lv_iload_n hx hb dJ6_numberOfTrailingZeros_0f7a4_12 rfl (lv_at hl 0 rfl) ?_
    refine lv_bipush (v := (32 : Int32)) hx hb dJ6_numberOfTrailingZeros_0f7a4_13 (by decide) ?_
    refine lv_iand hx hb dJ6_numberOfTrailingZeros_0f7a4_15 ?_
    cases h
    exact kret_i C0 hP hD hS rfl dJ6_numberOfTrailingZeros_0f7a4_16
abbrev WD1 (cI cC cZ : ClassId) (a_T a_T_letters : Nat) (T_length : Int32) (T_letters : Nat → Int32) : va_W := [(a_T, .inr (5, [.ref a_T_letters, .int T_length])), (a_T_letters, .inl (cC, 99, .inl T_letters))]
abbrev rm_X5_append : Room := { frames := 0, cells := 0, slots := 0, locals := 0 }
noncomputable def f_X5_append (T_length : Int32) (T_letters : Nat → Int32) (p1 : Int32) : Option (Int32 × Int32 × (Nat → Int32)) := if T_length < 0 then (some ((0 : Int32), T_length, T_letters)) else (if T_length < (99 : Int32) then (if (T_length < 0 ∨ 99 ≤ Int32.toNatClampNeg T_length) then none else (nm_ (T_length + (1 : Int32)) (fun t4 => some ((1 : Int32), t4, (upd T_letters (Int32.toNatClampNeg T_length) (vp_nar .char p1)))))) else (some ((0 : Int32), T_length, T_letters)))
set_option maxHeartbeats 4000000 in
set_option maxRecDepth 100000 in
theorem c_X5_append (l : Launch) (D : va_G) (cI cC cZ : ClassId) (a_T a_T_letters : Nat) (sz : Nat) (T_length : Int32) (T_letters : Nat → Int32) (p1 : Int32) (rr : Int32) (u_T_length : Int32) (u_T_letters : Nat → Int32) (hf : f_X5_append T_length T_letters p1 = some (rr, u_T_length, u_T_letters)) : kMet l yX5_append cX5_append 2 (some .boolean) rm_X5_append D (kTY cI cC cZ) [.ref a_T, .int p1] (WD1 cI cC cZ a_T a_T_letters T_length T_letters) sz (kQI D (kTY cI cC cZ) (va_A (WD1 cI cC cZ a_T a_T_letters T_length T_letters) sz) rr (WD1 cI cC cZ a_T a_T_letters u_T_length u_T_letters)) := by
  refine kEnter (lv := [(0, .ref a_T), (1, .int p1)]) (own := RX5) (by decide) rfl (Nat.le_of_ble_eq_true rfl) rfl ?_
  intro p e s m below meth c hsz C0 hP hD hS ls hl
  generalize (va_A (WD1 cI cC cZ a_T a_T_letters T_length T_letters) sz) = A at C0 hD hS ⊢
  clear hsz hS
  obtain ⟨H, hHs⟩ : ∃ H : Heap, H = s.heap := ⟨_, rfl⟩
  have hS : va_S A s.heap H [] := by rw [hHs]; exact va_S.rf
  rw [← hHs] at hP ⊢
  obtain ⟨hx, hb, hr, hml, hown, hts, hK, hN, hA, hlocks, hF⟩ := id C0
  have h := hf
  unfold f_X5_append at h
  refine lv_aload_n hx hb dX5_append_0 rfl (lv_at hl 0 rfl) ?_
  refine va_get (D := D) (ci := 5) (v := .int T_length) (C := RX5) (T := TX5) (N := 2) hx hb hts inlX5 hown hK hP 0 rfl rfl 1 (by decide) (hts _ kw_104) (fun _ h9 => h9) rfl dX5_append_1 ?_
  refine lv_if_lt (tgt := 16) hx hb dX5_append_4 (by decide) (fun c1 => ?_) (fun c1 => ?_)
  · have h := oc_t c1 h
    refine lv_iconst (v := (0 : Int32)) hx hb dX5_append_16 (by decide) ?_
    cases h
    exact kret_i C0 hP hD hS (by decide) dX5_append_17
  · have h := oc_f c1 h
    refine lv_aload_n hx hb dX5_append_7 rfl (lv_at hl 0 rfl) ?_
    refine va_get (D := D) (ci := 5) (v := .int T_length) (C := RX5) (T := TX5) (N := 2) hx hb hts inlX5 hown hK hP 0 rfl rfl 1 (by decide) (hts _ kw_104) (fun _ h9 => h9) rfl dX5_append_8 ?_
    refine lv_bipush (v := (99 : Int32)) hx hb dX5_append_11 (by decide) ?_
    refine lv_icmp_lt (tgt := 18) hx hb dX5_append_13 (by decide) (fun c2 => ?_) (fun c2 => ?_)
    · have h := oc_t c2 h
      refine lv_aload_n hx hb dX5_append_18 rfl (lv_at hl 0 rfl) ?_
      refine va_get (D := D) (ci := 5) (v := .ref a_T_letters) (C := RX5) (T := TX5) (N := 2) hx hb hts inlX5 hown hK hP 0 rfl rfl 0 (by decide) (hts _ kw_46) (fun _ h9 => h9) rfl dX5_append_19 ?_
      refine lv_aload_n hx hb dX5_append_22 rfl (lv_at hl 0 rfl) ?_
      refine va_get (D := D) (ci := 5) (v := .int T_length) (C := RX5) (T := TX5) (N := 2) hx hb hts inlX5 hown hK hP 0 rfl rfl 1 (by decide) (hts _ kw_104) (fun _ h9 => h9) rfl dX5_append_23 ?_
      refine lv_iload_n hx hb dX5_append_26 rfl (lv_at hl 1 rfl) ?_
      obtain ⟨hb3, h⟩ := oc_else h
      refine va_cast hx hb hK hP hD hS 1 1 rfl rfl hb3 dX5_append_27 (fun H locs hP hD hS => ?_)
      have hP : va_P D vwCl (WD1 cI cC cZ a_T a_T_letters T_length (upd T_letters (Int32.toNatClampNeg T_length) (vp_nar .char p1))) H := hP
      have hD : va_D A (WD1 cI cC cZ a_T a_T_letters T_length (upd T_letters (Int32.toNatClampNeg T_length) (vp_nar .char p1))) := hD
      refine lv_aload_n hx hb dX5_append_28 rfl (lv_at hl 0 rfl) ?_
      refine lv_dup hx hb dX5_append_29 rfl ?_
      refine va_get (D := D) (ci := 5) (v := .int T_length) (C := RX5) (T := TX5) (N := 2) hx hb hts inlX5 hown hK hP 0 rfl rfl 1 (by decide) (hts _ kw_104) (fun _ h9 => h9) rfl dX5_append_30 ?_
      refine lv_iconst (v := (1 : Int32)) hx hb dX5_append_33 (by decide) ?_
      refine lv_iadd hx hb dX5_append_34 ?_
      refine lv_topi (fun t4 e_t4 => ?_)
      have h := oc_nm e_t4 h
      refine va_put (D := D) (ci := 5) (v := .int t4) (ty := .int) (C := RX5) (T := TX5) (N := 2) hx hb hts inlX5 tyX5 tyX5_ok nmX5 hown hK hP hD hS 0 rfl rfl 1 (by decide) (hts _ kw_104) (fun _ h9 => h9) rfl (by decide +kernel) rfl rfl (Nat.le_of_ble_eq_true rfl) dX5_append_35 (fun H locs hP hD hS => ?_)
      have hP : va_P D vwCl (WD1 cI cC cZ a_T a_T_letters t4 (upd T_letters (Int32.toNatClampNeg T_length) (vp_nar .char p1))) H := hP
      have hD : va_D A (WD1 cI cC cZ a_T a_T_letters t4 (upd T_letters (Int32.toNatClampNeg T_length) (vp_nar .char p1))) := hD
      refine lv_iconst (v := (1 : Int32)) hx hb dX5_append_38 (by decide) ?_
      cases h
      exact kret_i C0 hP hD hS (by decide) dX5_append_39
    · have h := oc_f c2 h
      refine lv_iconst (v := (0 : Int32)) hx hb dX5_append_16 (by decide) ?_
      cases h
      exact kret_i C0 hP hD hS (by decide) dX5_append_17
abbrev rm_X5_letterAt : Room := { frames := 0, cells := 0, slots := 0, locals := 0 }
noncomputable def f_X5_letterAt (T_length : Int32) (T_letters : Nat → Int32) (p1 : Int32) : Option (Int32) := if p1 < 0 then (some (0 : Int32)) else (if T_length ≤ p1 then (some (0 : Int32)) else (if p1 < (99 : Int32) then (if (p1 < 0 ∨ 99 ≤ Int32.toNatClampNeg p1) then none else (if (Int32.toUInt32 (T_letters (Int32.toNatClampNeg p1))).toUInt16.toUInt32.toInt32 = (T_letters (Int32.toNatClampNeg p1)) then (some (T_letters (Int32.toNatClampNeg p1))) else none)) else (some (0 : Int32))))
set_option maxHeartbeats 4000000 in
set_option maxRecDepth 100000 in
theorem c_X5_letterAt (l : Launch) (D : va_G) (cI cC cZ : ClassId) (a_T a_T_letters : Nat) (sz : Nat) (T_length : Int32) (T_letters : Nat → Int32) (p1 : Int32) (rr : Int32) (hf : f_X5_letterAt T_length T_letters p1 = some rr) : kMet l yX5_letterAt cX5_letterAt 2 (some .char) rm_X5_letterAt D (kTY cI cC cZ) [.ref a_T, .int p1] (WD1 cI cC cZ a_T a_T_letters T_length T_letters) sz (kQI D (kTY cI cC cZ) (va_A (WD1 cI cC cZ a_T a_T_letters T_length T_letters) sz) rr (WD1 cI cC cZ a_T a_T_letters T_length T_letters)) := by
  refine kEnter (lv := [(0, .ref a_T), (1, .int p1)]) (own := RX5) (by decide) rfl (Nat.le_of_ble_eq_true rfl) rfl ?_
  intro p e s m below meth c hsz C0 hP hD hS ls hl
  generalize (va_A (WD1 cI cC cZ a_T a_T_letters T_length T_letters) sz) = A at C0 hD hS ⊢
  clear hsz hS
  obtain ⟨H, hHs⟩ : ∃ H : Heap, H = s.heap := ⟨_, rfl⟩
  have hS : va_S A s.heap H [] := by rw [hHs]; exact va_S.rf
  rw [← hHs] at hP ⊢
  obtain ⟨hx, hb, hr, hml, hown, hts, hK, hN, hA, hlocks, hF⟩ := id C0
  have h := hf
  unfold f_X5_letterAt at h
  refine lv_iload_n hx hb dX5_letterAt_0 rfl (lv_at hl 1 rfl) ?_
  refine lv_if_lt (tgt := 18) hx hb dX5_letterAt_1 (by decide) (fun c1 => ?_) (fun c1 => ?_)
  · have h := oc_t c1 h
    refine lv_iconst (v := (0 : Int32)) hx hb dX5_letterAt_18 (by decide) ?_
    refine lv_goto (tgt := 28) hx hb dX5_letterAt_19 (by decide) ?_
    cases h
    exact kret_i C0 hP hD hS (by decide) dX5_letterAt_28
  · have h := oc_f c1 h
    refine lv_iload_n hx hb dX5_letterAt_4 rfl (lv_at hl 1 rfl) ?_
    refine lv_aload_n hx hb dX5_letterAt_5 rfl (lv_at hl 0 rfl) ?_
    refine va_get (D := D) (ci := 5) (v := .int T_length) (C := RX5) (T := TX5) (N := 2) hx hb hts inlX5 hown hK hP 0 rfl rfl 1 (by decide) (hts _ kw_104) (fun _ h9 => h9) rfl dX5_letterAt_6 ?_
    refine lv_icmp_ge (tgt := 18) hx hb dX5_letterAt_9 (by decide) (fun c2 => ?_) (fun c2 => ?_)
    · have h := oc_t c2 h
      refine lv_iconst (v := (0 : Int32)) hx hb dX5_letterAt_18 (by decide) ?_
      refine lv_goto (tgt := 28) hx hb dX5_letterAt_19 (by decide) ?_
      cases h
      exact kret_i C0 hP hD hS (by decide) dX5_letterAt_28
    · have h := oc_f c2 h
      refine lv_iload_n hx hb dX5_letterAt_12 rfl (lv_at hl 1 rfl) ?_
      refine lv_bipush (v := (99 : Int32)) hx hb dX5_letterAt_13 (by decide) ?_
      refine lv_icmp_lt (tgt := 22) hx hb dX5_letterAt_15 (by decide) (fun c3 => ?_) (fun c3 => ?_)
      · have h := oc_t c3 h
        refine lv_aload_n hx hb dX5_letterAt_22 rfl (lv_at hl 0 rfl) ?_
        refine va_get (D := D) (ci := 5) (v := .ref a_T_letters) (C := RX5) (T := TX5) (N := 2) hx hb hts inlX5 hown hK hP 0 rfl rfl 0 (by decide) (hts _ kw_46) (fun _ h9 => h9) rfl dX5_letterAt_23 ?_
        refine lv_iload_n hx hb dX5_letterAt_26 rfl (lv_at hl 1 rfl) ?_
        obtain ⟨hb4, h⟩ := oc_else h
        refine va_cald hx hb hK hP 1 1 rfl rfl hb4 dX5_letterAt_27 ?_
        obtain ⟨hn5, h⟩ := oc_then h
        cases h
        exact kret_i C0 hP hD hS (kn_char hn5) dX5_letterAt_28
      · have h := oc_f c3 h
        refine lv_iconst (v := (0 : Int32)) hx hb dX5_letterAt_18 (by decide) ?_
        refine lv_goto (tgt := 28) hx hb dX5_letterAt_19 (by decide) ?_
        cases h
        exact kret_i C0 hP hD hS (by decide) dX5_letterAt_28
abbrev rm_X5_figureAt : Room := { frames := 1, cells := 0, slots := 0, locals := 21 }
noncomputable def f_X5_figureAt (T_length : Int32) (T_letters : Nat → Int32) (p1 : Int32) : Option (Int32) := (f_X5_letterAt T_length T_letters p1).bind (fun r2 => some (r2 - (48 : Int32)))
set_option maxHeartbeats 4000000 in
set_option maxRecDepth 100000 in
theorem c_X5_figureAt (l : Launch) (D : va_G) (cI cC cZ : ClassId) (a_T a_T_letters : Nat) (sz : Nat) (T_length : Int32) (T_letters : Nat → Int32) (p1 : Int32) (rr : Int32) (hf : f_X5_figureAt T_length T_letters p1 = some rr) : kMet l yX5_figureAt cX5_figureAt 2 (some .int) rm_X5_figureAt D (kTY cI cC cZ) [.ref a_T, .int p1] (WD1 cI cC cZ a_T a_T_letters T_length T_letters) sz (kQI D (kTY cI cC cZ) (va_A (WD1 cI cC cZ a_T a_T_letters T_length T_letters) sz) rr (WD1 cI cC cZ a_T a_T_letters T_length T_letters)) := by
  refine kEnter (lv := [(0, .ref a_T), (1, .int p1)]) (own := RX5) (by decide) rfl (Nat.le_of_ble_eq_true rfl) rfl ?_
  intro p e s m below meth c hsz C0 hP hD hS ls hl
  generalize (va_A (WD1 cI cC cZ a_T a_T_letters T_length T_letters) sz) = A at C0 hD hS ⊢
  clear hsz hS
  obtain ⟨H, hHs⟩ : ∃ H : Heap, H = s.heap := ⟨_, rfl⟩
  have hS : va_S A s.heap H [] := by rw [hHs]; exact va_S.rf
  rw [← hHs] at hP ⊢
  obtain ⟨hx, hb, hr, hml, hown, hts, hK, hN, hA, hlocks, hF⟩ := id C0
  have h := hf
  unfold f_X5_figureAt at h
  refine lv_aload_n hx hb dX5_figureAt_0 rfl (lv_at hl 0 rfl) ?_
  refine lv_iload_n hx hb dX5_figureAt_1 rfl (lv_at hl 1 rfl) ?_
  obtain ⟨r2, hc1, h⟩ := oc_bind h
  refine kro_i (wc := (WD1 cI cC cZ a_T a_T_letters T_length T_letters)) C0 hP hD hS [0, 1] rfl (kV (n := 1) (As := [.int p1]) (rest := []) (wc := (WD1 cI cC cZ a_T a_T_letters T_length T_letters)) (C := RX5) C0 hP hD hS [0, 1] rfl (by decide) (c_X5_letterAt l D cI cC cZ a_T a_T_letters H.size T_length T_letters p1 r2 hc1) kw_137 kw_134 kw_135 kw_136 kw_15 (by decide +kernel) (by decide) rfl rfl rfl hl.1 rfl (Nat.le_of_ble_eq_true rfl) ⟨Nat.zero_le _, Nat.zero_le _⟩ dX5_figureAt_2) (fun H locs hP hS => ?_)
  refine lv_bipush (v := (48 : Int32)) hx hb dX5_figureAt_5 (by decide) ?_
  refine lv_isub hx hb dX5_figureAt_7 ?_
  cases h
  exact kret_i C0 hP hD hS rfl dX5_figureAt_8
abbrev rm_X5_isWithin : Room := { frames := 2, cells := 0, slots := 0, locals := 42 }
noncomputable def f_X5_isWithin (T_length : Int32) (T_letters : Nat → Int32) (p1 : Int32) (p2 : Int32) (p3 : Int32) : Option (Int32) := (f_X5_figureAt T_length T_letters p1).bind (fun r2 => if r2 < p2 then (some (0 : Int32)) else (if p3 < r2 then (some (0 : Int32)) else (some (1 : Int32))))
set_option maxHeartbeats 4000000 in
set_option maxRecDepth 100000 in
theorem c_X5_isWithin (l : Launch) (D : va_G) (cI cC cZ : ClassId) (a_T a_T_letters : Nat) (sz : Nat) (T_length : Int32) (T_letters : Nat → Int32) (p1 : Int32) (p2 : Int32) (p3 : Int32) (rr : Int32) (hf : f_X5_isWithin T_length T_letters p1 p2 p3 = some rr) : kMet l yX5_isWithin cX5_isWithin 5 (some .boolean) rm_X5_isWithin D (kTY cI cC cZ) [.ref a_T, .int p1, .int p2, .int p3] (WD1 cI cC cZ a_T a_T_letters T_length T_letters) sz (kQI D (kTY cI cC cZ) (va_A (WD1 cI cC cZ a_T a_T_letters T_length T_letters) sz) rr (WD1 cI cC cZ a_T a_T_letters T_length T_letters)) := by
  refine kEnter (lv := [(0, .ref a_T), (1, .int p1), (2, .int p2), (3, .int p3)]) (own := RX5) (by decide) rfl (Nat.le_of_ble_eq_true rfl) rfl ?_
  intro p e s m below meth c hsz C0 hP hD hS ls hl
  generalize (va_A (WD1 cI cC cZ a_T a_T_letters T_length T_letters) sz) = A at C0 hD hS ⊢
  clear hsz hS
  obtain ⟨H, hHs⟩ : ∃ H : Heap, H = s.heap := ⟨_, rfl⟩
  have hS : va_S A s.heap H [] := by rw [hHs]; exact va_S.rf
  rw [← hHs] at hP ⊢
  obtain ⟨hx, hb, hr, hml, hown, hts, hK, hN, hA, hlocks, hF⟩ := id C0
  have h := hf
  unfold f_X5_isWithin at h
  refine lv_aload_n hx hb dX5_isWithin_0 rfl (lv_at hl 0 rfl) ?_
  refine lv_iload_n hx hb dX5_isWithin_1 rfl (lv_at hl 1 rfl) ?_
  obtain ⟨r2, hc1, h⟩ := oc_bind h
  refine kro_i (wc := (WD1 cI cC cZ a_T a_T_letters T_length T_letters)) C0 hP hD hS [0, 1] rfl (kV (n := 1) (As := [.int p1]) (rest := []) (wc := (WD1 cI cC cZ a_T a_T_letters T_length T_letters)) (C := RX5) C0 hP hD hS [0, 1] rfl (by decide) (c_X5_figureAt l D cI cC cZ a_T a_T_letters H.size T_length T_letters p1 r2 hc1) kw_145 kw_142 kw_143 kw_144 kw_15 (by decide +kernel) (by decide) rfl rfl rfl hl.1 rfl (Nat.le_of_ble_eq_true rfl) ⟨Nat.zero_le _, Nat.zero_le _⟩ dX5_isWithin_2) (fun H locs hP hS => ?_)
  refine lv_istore (lv' := [(4, .int r2), (0, .ref a_T), (1, .int p1), (2, .int p2), (3, .int p3)]) hx hb dX5_isWithin_5 hl (by decide) rfl (fun ls hl => ?_)
  refine lv_iload hx hb dX5_isWithin_7 (lv_at hl 0 rfl) ?_
  refine lv_iload_n hx hb dX5_isWithin_9 rfl (lv_at hl 3 rfl) ?_
  refine lv_icmp_lt (tgt := 23) hx hb dX5_isWithin_10 (by decide) (fun c3 => ?_) (fun c3 => ?_)
  · have h := oc_t c3 h
    refine lv_iconst (v := (0 : Int32)) hx hb dX5_isWithin_23 (by decide) ?_
    cases h
    exact kret_i C0 hP hD hS (by decide) dX5_isWithin_24
  · have h := oc_f c3 h
    refine lv_iload hx hb dX5_isWithin_13 (lv_at hl 0 rfl) ?_
    refine lv_iload_n hx hb dX5_isWithin_15 rfl (lv_at hl 4 rfl) ?_
    refine lv_icmp_gt (tgt := 23) hx hb dX5_isWithin_16 (by decide) (fun c4 => ?_) (fun c4 => ?_)
    · have h := oc_t c4 h
      refine lv_iconst (v := (0 : Int32)) hx hb dX5_isWithin_23 (by decide) ?_
      cases h
      exact kret_i C0 hP hD hS (by decide) dX5_isWithin_24
    · have h := oc_f c4 h
      refine lv_iconst (v := (1 : Int32)) hx hb dX5_isWithin_19 (by decide) ?_
      refine lv_goto (tgt := 24) hx hb dX5_isWithin_20 (by decide) ?_
      cases h
      exact kret_i C0 hP hD hS (by decide) dX5_isWithin_24
abbrev rm_X5_endsWhereItBegins : Room := { frames := 1, cells := 0, slots := 0, locals := 21 }
noncomputable def f_X5_endsWhereItBegins (T_length : Int32) (T_letters : Nat → Int32) (p1 : Int32) : Option (Int32) := (f_X5_letterAt T_length T_letters p1).bind (fun r2 => (f_X5_letterAt T_length T_letters (p1 - (2 : Int32))).bind (fun r4 => if r2 = r4 then ((f_X5_letterAt T_length T_letters (p1 - (1 : Int32))).bind (fun r7 => (f_X5_letterAt T_length T_letters (p1 - (3 : Int32))).bind (fun r9 => if r7 = r9 then (some (1 : Int32)) else (some (0 : Int32))))) else (some (0 : Int32))))
set_option maxHeartbeats 4000000 in
set_option maxRecDepth 100000 in
theorem c_X5_endsWhereItBegins (l : Launch) (D : va_G) (cI cC cZ : ClassId) (a_T a_T_letters : Nat) (sz : Nat) (T_length : Int32) (T_letters : Nat → Int32) (p1 : Int32) (rr : Int32) (hf : f_X5_endsWhereItBegins T_length T_letters p1 = some rr) : kMet l yX5_endsWhereItBegins cX5_endsWhereItBegins 2 (some .boolean) rm_X5_endsWhereItBegins D (kTY cI cC cZ) [.ref a_T, .int p1] (WD1 cI cC cZ a_T a_T_letters T_length T_letters) sz (kQI D (kTY cI cC cZ) (va_A (WD1 cI cC cZ a_T a_T_letters T_length T_letters) sz) rr (WD1 cI cC cZ a_T a_T_letters T_length T_letters)) := by
  refine kEnter (lv := [(0, .ref a_T), (1, .int p1)]) (own := RX5) (by decide) rfl (Nat.le_of_ble_eq_true rfl) rfl ?_
  intro p e s m below meth c hsz C0 hP hD hS ls hl
  generalize (va_A (WD1 cI cC cZ a_T a_T_letters T_length T_letters) sz) = A at C0 hD hS ⊢
  clear hsz hS
  obtain ⟨H, hHs⟩ : ∃ H : Heap, H = s.heap := ⟨_, rfl⟩
  have hS : va_S A s.heap H [] := by rw [hHs]; exact va_S.rf
  rw [← hHs] at hP ⊢
  obtain ⟨hx, hb, hr, hml, hown, hts, hK, hN, hA, hlocks, hF⟩ := id C0
  have h := hf
  unfold f_X5_endsWhereItBegins at h
  refine lv_aload_n hx hb dX5_endsWhereItBegins_0 rfl (lv_at hl 0 rfl) ?_
  refine lv_iload_n hx hb dX5_endsWhereItBegins_1 rfl (lv_at hl 1 rfl) ?_
  obtain ⟨r2, hc1, h⟩ := oc_bind h
  refine kro_i (wc := (WD1 cI cC cZ a_T a_T_letters T_length T_letters)) C0 hP hD hS [0, 1] rfl (kV (n := 1) (As := [.int p1]) (rest := []) (wc := (WD1 cI cC cZ a_T a_T_letters T_length T_letters)) (C := RX5) C0 hP hD hS [0, 1] rfl (by decide) (c_X5_letterAt l D cI cC cZ a_T a_T_letters H.size T_length T_letters p1 r2 hc1) kw_137 kw_134 kw_135 kw_136 kw_15 (by decide +kernel) (by decide) rfl rfl rfl hl.1 rfl (Nat.le_of_ble_eq_true rfl) ⟨Nat.zero_le _, Nat.zero_le _⟩ dX5_endsWhereItBegins_2) (fun H locs hP hS => ?_)
  refine lv_aload_n hx hb dX5_endsWhereItBegins_5 rfl (lv_at hl 0 rfl) ?_
  refine lv_iload_n hx hb dX5_endsWhereItBegins_6 rfl (lv_at hl 1 rfl) ?_
  refine lv_iconst (v := (2 : Int32)) hx hb dX5_endsWhereItBegins_7 (by decide) ?_
  refine lv_isub hx hb dX5_endsWhereItBegins_8 ?_
  obtain ⟨r4, hc3, h⟩ := oc_bind h
  refine kro_i (wc := (WD1 cI cC cZ a_T a_T_letters T_length T_letters)) C0 hP hD hS [0, 1] rfl (kV (n := 1) (As := [.int (p1 - (2 : Int32))]) (rest := [.int r2]) (wc := (WD1 cI cC cZ a_T a_T_letters T_length T_letters)) (C := RX5) C0 hP hD hS [0, 1] rfl (by decide) (c_X5_letterAt l D cI cC cZ a_T a_T_letters H.size T_length T_letters (p1 - (2 : Int32)) r4 hc3) kw_137 kw_134 kw_135 kw_136 kw_15 (by decide +kernel) (by decide) rfl rfl rfl hl.1 rfl (Nat.le_of_ble_eq_true rfl) ⟨Nat.zero_le _, Nat.zero_le _⟩ dX5_endsWhereItBegins_9) (fun H locs hP hS => ?_)
  refine lv_icmp_ne (tgt := 36) hx hb dX5_endsWhereItBegins_12 (by decide) (fun c5 => ?_) (fun c5 => ?_)
  · have h := oc_f c5 h
    refine lv_iconst (v := (0 : Int32)) hx hb dX5_endsWhereItBegins_36 (by decide) ?_
    cases h
    exact kret_i C0 hP hD hS (by decide) dX5_endsWhereItBegins_37
  · have h := oc_t c5 h
    refine lv_aload_n hx hb dX5_endsWhereItBegins_15 rfl (lv_at hl 0 rfl) ?_
    refine lv_iload_n hx hb dX5_endsWhereItBegins_16 rfl (lv_at hl 1 rfl) ?_
    refine lv_iconst (v := (1 : Int32)) hx hb dX5_endsWhereItBegins_17 (by decide) ?_
    refine lv_isub hx hb dX5_endsWhereItBegins_18 ?_
    obtain ⟨r7, hc6, h⟩ := oc_bind h
    refine kro_i (wc := (WD1 cI cC cZ a_T a_T_letters T_length T_letters)) C0 hP hD hS [0, 1] rfl (kV (n := 1) (As := [.int (p1 - (1 : Int32))]) (rest := []) (wc := (WD1 cI cC cZ a_T a_T_letters T_length T_letters)) (C := RX5) C0 hP hD hS [0, 1] rfl (by decide) (c_X5_letterAt l D cI cC cZ a_T a_T_letters H.size T_length T_letters (p1 - (1 : Int32)) r7 hc6) kw_137 kw_134 kw_135 kw_136 kw_15 (by decide +kernel) (by decide) rfl rfl rfl hl.1 rfl (Nat.le_of_ble_eq_true rfl) ⟨Nat.zero_le _, Nat.zero_le _⟩ dX5_endsWhereItBegins_19) (fun H locs hP hS => ?_)
    refine lv_aload_n hx hb dX5_endsWhereItBegins_22 rfl (lv_at hl 0 rfl) ?_
    refine lv_iload_n hx hb dX5_endsWhereItBegins_23 rfl (lv_at hl 1 rfl) ?_
    refine lv_iconst (v := (3 : Int32)) hx hb dX5_endsWhereItBegins_24 (by decide) ?_
    refine lv_isub hx hb dX5_endsWhereItBegins_25 ?_
    obtain ⟨r9, hc8, h⟩ := oc_bind h
    refine kro_i (wc := (WD1 cI cC cZ a_T a_T_letters T_length T_letters)) C0 hP hD hS [0, 1] rfl (kV (n := 1) (As := [.int (p1 - (3 : Int32))]) (rest := [.int r7]) (wc := (WD1 cI cC cZ a_T a_T_letters T_length T_letters)) (C := RX5) C0 hP hD hS [0, 1] rfl (by decide) (c_X5_letterAt l D cI cC cZ a_T a_T_letters H.size T_length T_letters (p1 - (3 : Int32)) r9 hc8) kw_137 kw_134 kw_135 kw_136 kw_15 (by decide +kernel) (by decide) rfl rfl rfl hl.1 rfl (Nat.le_of_ble_eq_true rfl) ⟨Nat.zero_le _, Nat.zero_le _⟩ dX5_endsWhereItBegins_26) (fun H locs hP hS => ?_)
    refine lv_icmp_ne (tgt := 36) hx hb dX5_endsWhereItBegins_29 (by decide) (fun c10 => ?_) (fun c10 => ?_)
    · have h := oc_f c10 h
      refine lv_iconst (v := (0 : Int32)) hx hb dX5_endsWhereItBegins_36 (by decide) ?_
      cases h
      exact kret_i C0 hP hD hS (by decide) dX5_endsWhereItBegins_37
    · have h := oc_t c10 h
      refine lv_iconst (v := (1 : Int32)) hx hb dX5_endsWhereItBegins_32 (by decide) ?_
      refine lv_goto (tgt := 37) hx hb dX5_endsWhereItBegins_33 (by decide) ?_
      cases h
      exact kret_i C0 hP hD hS (by decide) dX5_endsWhereItBegins_37
abbrev rm_X5_fitsInPart : Room := { frames := 3, cells := 0, slots := 0, locals := 66 }
noncomputable def bk_X5_fitsInPart_70  (T_length : Int32) (T_letters : Nat → Int32) (s0 : Int32) (s1 : Int32) : Option (Int32) := (f_X5_isWithin T_length T_letters s1 s0 (9 : Int32)).bind (fun r2 => if r2 &&& 1 = r2 then (some r2) else none)
set_option maxHeartbeats 4000000 in
set_option maxRecDepth 100000 in
theorem wk_X5_fitsInPart_70 {p : Program} {l : Launch} {e : Env} {s : State} {m : MethodId} {args : Array Value} {below : List Frame} {meth : Method} {c : Code} {D : va_G} {cI cC cZ : ClassId} {A : Nat → Prop} {a_T a_T_letters : Nat} {T_length : Int32} {T_letters : Nat → Int32} {s0 : Int32} {s1 : Int32}  {rr : Int32} (C0 : kC p s m args meth c D (kTY cI cC cZ) cX5_fitsInPart (some .boolean) 4 RX5 A)  (h : bk_X5_fitsInPart_70  T_length T_letters s0 s1 = some rr) {H : Heap} {locs : List Loc} (hP : va_P D vwCl (WD1 cI cC cZ a_T a_T_letters T_length T_letters) H) (hD : va_D A (WD1 cI cC cZ a_T a_T_letters T_length T_letters)) (hS : va_S A s.heap H locs) {ls : Array Slot} (hl : lv_has ls 4 []) : W p l e rm_X5_fitsInPart s m args below meth c H locs 0 0 (MQ below (kQI D (kTY cI cC cZ) A rr (WD1 cI cC cZ a_T a_T_letters T_length T_letters)) args s 0 0 A) (F0 m 70 ls [.int s0, .int s1, .ref a_T]) := by
  obtain ⟨hx, hb, hr, hml, hown, hts, hK, hN, hA, hlocks, hF⟩ := id C0
  unfold bk_X5_fitsInPart_70 at h
  refine lv_bipush (v := (9 : Int32)) hx hb dX5_fitsInPart_70 (by decide) ?_
  obtain ⟨r2, hc1, h⟩ := oc_bind h
  refine kro_i (wc := (WD1 cI cC cZ a_T a_T_letters T_length T_letters)) C0 hP hD hS [0, 1] rfl (kV (n := 3) (As := [.int s1, .int s0, .int (9 : Int32)]) (rest := []) (wc := (WD1 cI cC cZ a_T a_T_letters T_length T_letters)) (C := RX5) C0 hP hD hS [0, 1] rfl (by decide) (c_X5_isWithin l D cI cC cZ a_T a_T_letters H.size T_length T_letters s1 s0 (9 : Int32) r2 hc1) kw_141 kw_138 kw_139 kw_140 kw_15 (by decide +kernel) (by decide) rfl rfl rfl hl.1 rfl (Nat.le_of_ble_eq_true rfl) ⟨Nat.zero_le _, Nat.zero_le _⟩ dX5_fitsInPart_72) (fun H locs hP hS => ?_)
  obtain ⟨hn3, h⟩ := oc_then h
  cases h
  exact kret_i C0 hP hD hS (kn_bool hn3) dX5_fitsInPart_75
noncomputable def f_X5_fitsInPart (T_length : Int32) (T_letters : Nat → Int32) (p1 : Int32) (p2 : Int32) : Option (Int32) := (f_X5_letterAt T_length T_letters (p1 - p2)).bind (fun r2 => if r2 = (119 : Int32) then ((f_X5_isWithin T_length T_letters p1 (0 : Int32) (6 : Int32)).bind (fun r10 => if r10 = 0 then (some (0 : Int32)) else (if p2 = (4 : Int32) then ((f_X5_endsWhereItBegins T_length T_letters p1).bind (fun r14 => if r14 = 0 then (some (1 : Int32)) else (some (0 : Int32)))) else (some (1 : Int32))))) else (if (2 : Int32) < p2 then (if r2 = (115 : Int32) then (bk_X5_fitsInPart_70  T_length T_letters (1 : Int32) p1) else (bk_X5_fitsInPart_70  T_length T_letters (0 : Int32) p1)) else ((f_X5_isWithin T_length T_letters p1 (0 : Int32) (5 : Int32)).bind (fun r7 => if r7 &&& 1 = r7 then (some r7) else none))))
set_option maxHeartbeats 4000000 in
set_option maxRecDepth 100000 in
theorem c_X5_fitsInPart (l : Launch) (D : va_G) (cI cC cZ : ClassId) (a_T a_T_letters : Nat) (sz : Nat) (T_length : Int32) (T_letters : Nat → Int32) (p1 : Int32) (p2 : Int32) (rr : Int32) (hf : f_X5_fitsInPart T_length T_letters p1 p2 = some rr) : kMet l yX5_fitsInPart cX5_fitsInPart 4 (some .boolean) rm_X5_fitsInPart D (kTY cI cC cZ) [.ref a_T, .int p1, .int p2] (WD1 cI cC cZ a_T a_T_letters T_length T_letters) sz (kQI D (kTY cI cC cZ) (va_A (WD1 cI cC cZ a_T a_T_letters T_length T_letters) sz) rr (WD1 cI cC cZ a_T a_T_letters T_length T_letters)) := by
  refine kEnter (lv := [(0, .ref a_T), (1, .int p1), (2, .int p2)]) (own := RX5) (by decide) rfl (Nat.le_of_ble_eq_true rfl) rfl ?_
  intro p e s m below meth c hsz C0 hP hD hS ls hl
  generalize (va_A (WD1 cI cC cZ a_T a_T_letters T_length T_letters) sz) = A at C0 hD hS ⊢
  clear hsz hS
  obtain ⟨H, hHs⟩ : ∃ H : Heap, H = s.heap := ⟨_, rfl⟩
  have hS : va_S A s.heap H [] := by rw [hHs]; exact va_S.rf
  rw [← hHs] at hP ⊢
  obtain ⟨hx, hb, hr, hml, hown, hts, hK, hN, hA, hlocks, hF⟩ := id C0
  have h := hf
  unfold f_X5_fitsInPart at h
  refine lv_aload_n hx hb dX5_fitsInPart_0 rfl (lv_at hl 0 rfl) ?_
  refine lv_iload_n hx hb dX5_fitsInPart_1 rfl (lv_at hl 1 rfl) ?_
  refine lv_iload_n hx hb dX5_fitsInPart_2 rfl (lv_at hl 2 rfl) ?_
  refine lv_isub hx hb dX5_fitsInPart_3 ?_
  obtain ⟨r2, hc1, h⟩ := oc_bind h
  refine kro_i (wc := (WD1 cI cC cZ a_T a_T_letters T_length T_letters)) C0 hP hD hS [0, 1] rfl (kV (n := 1) (As := [.int (p1 - p2)]) (rest := []) (wc := (WD1 cI cC cZ a_T a_T_letters T_length T_letters)) (C := RX5) C0 hP hD hS [0, 1] rfl (by decide) (c_X5_letterAt l D cI cC cZ a_T a_T_letters H.size T_length T_letters (p1 - p2) r2 hc1) kw_137 kw_134 kw_135 kw_136 kw_15 (by decide +kernel) (by decide) rfl rfl rfl hl.1 rfl (Nat.le_of_ble_eq_true rfl) ⟨Nat.zero_le _, Nat.zero_le _⟩ dX5_fitsInPart_4) (fun H locs hP hS => ?_)
  refine lv_istore_n (lv' := [(3, .int r2), (0, .ref a_T), (1, .int p1), (2, .int p2)]) hx hb dX5_fitsInPart_7 rfl hl (by decide) rfl (fun ls hl => ?_)
  refine lv_iload_n hx hb dX5_fitsInPart_8 rfl (lv_at hl 0 rfl) ?_
  refine lv_bipush (v := (119 : Int32)) hx hb dX5_fitsInPart_9 (by decide) ?_
  refine lv_icmp_ne (tgt := 44) hx hb dX5_fitsInPart_11 (by decide) (fun c3 => ?_) (fun c3 => ?_)
  · have h := oc_f c3 h
    refine lv_iload_n hx hb dX5_fitsInPart_44 rfl (lv_at hl 3 rfl) ?_
    refine lv_iconst (v := (2 : Int32)) hx hb dX5_fitsInPart_45 (by decide) ?_
    refine lv_icmp_gt (tgt := 57) hx hb dX5_fitsInPart_46 (by decide) (fun c4 => ?_) (fun c4 => ?_)
    · have h := oc_t c4 h
      refine lv_aload_n hx hb dX5_fitsInPart_57 rfl (lv_at hl 1 rfl) ?_
      refine lv_iload_n hx hb dX5_fitsInPart_58 rfl (lv_at hl 2 rfl) ?_
      refine lv_iload_n hx hb dX5_fitsInPart_59 rfl (lv_at hl 0 rfl) ?_
      refine lv_bipush (v := (115 : Int32)) hx hb dX5_fitsInPart_60 (by decide) ?_
      refine lv_icmp_ne (tgt := 69) hx hb dX5_fitsInPart_62 (by decide) (fun c5 => ?_) (fun c5 => ?_)
      · have h := oc_f c5 h
        refine lv_iconst (v := (0 : Int32)) hx hb dX5_fitsInPart_69 (by decide) ?_
        exact wk_X5_fitsInPart_70 C0  h hP hD hS (lv_sub hl [] rfl)
      · have h := oc_t c5 h
        refine lv_iconst (v := (1 : Int32)) hx hb dX5_fitsInPart_65 (by decide) ?_
        refine lv_goto (tgt := 70) hx hb dX5_fitsInPart_66 (by decide) ?_
        exact wk_X5_fitsInPart_70 C0  h hP hD hS (lv_sub hl [] rfl)
    · have h := oc_f c4 h
      refine lv_aload_n hx hb dX5_fitsInPart_49 rfl (lv_at hl 1 rfl) ?_
      refine lv_iload_n hx hb dX5_fitsInPart_50 rfl (lv_at hl 2 rfl) ?_
      refine lv_iconst (v := (0 : Int32)) hx hb dX5_fitsInPart_51 (by decide) ?_
      refine lv_iconst (v := (5 : Int32)) hx hb dX5_fitsInPart_52 (by decide) ?_
      obtain ⟨r7, hc6, h⟩ := oc_bind h
      refine kro_i (wc := (WD1 cI cC cZ a_T a_T_letters T_length T_letters)) C0 hP hD hS [0, 1] rfl (kV (n := 3) (As := [.int p1, .int (0 : Int32), .int (5 : Int32)]) (rest := []) (wc := (WD1 cI cC cZ a_T a_T_letters T_length T_letters)) (C := RX5) C0 hP hD hS [0, 1] rfl (by decide) (c_X5_isWithin l D cI cC cZ a_T a_T_letters H.size T_length T_letters p1 (0 : Int32) (5 : Int32) r7 hc6) kw_141 kw_138 kw_139 kw_140 kw_15 (by decide +kernel) (by decide) rfl rfl rfl hl.1 rfl (Nat.le_of_ble_eq_true rfl) ⟨Nat.zero_le _, Nat.zero_le _⟩ dX5_fitsInPart_53) (fun H locs hP hS => ?_)
      obtain ⟨hn8, h⟩ := oc_then h
      cases h
      exact kret_i C0 hP hD hS (kn_bool hn8) dX5_fitsInPart_56
  · have h := oc_t c3 h
    refine lv_aload_n hx hb dX5_fitsInPart_14 rfl (lv_at hl 1 rfl) ?_
    refine lv_iload_n hx hb dX5_fitsInPart_15 rfl (lv_at hl 2 rfl) ?_
    refine lv_iconst (v := (0 : Int32)) hx hb dX5_fitsInPart_16 (by decide) ?_
    refine lv_bipush (v := (6 : Int32)) hx hb dX5_fitsInPart_17 (by decide) ?_
    obtain ⟨r10, hc9, h⟩ := oc_bind h
    refine kro_i (wc := (WD1 cI cC cZ a_T a_T_letters T_length T_letters)) C0 hP hD hS [0, 1] rfl (kV (n := 3) (As := [.int p1, .int (0 : Int32), .int (6 : Int32)]) (rest := []) (wc := (WD1 cI cC cZ a_T a_T_letters T_length T_letters)) (C := RX5) C0 hP hD hS [0, 1] rfl (by decide) (c_X5_isWithin l D cI cC cZ a_T a_T_letters H.size T_length T_letters p1 (0 : Int32) (6 : Int32) r10 hc9) kw_141 kw_138 kw_139 kw_140 kw_15 (by decide +kernel) (by decide) rfl rfl rfl hl.1 rfl (Nat.le_of_ble_eq_true rfl) ⟨Nat.zero_le _, Nat.zero_le _⟩ dX5_fitsInPart_19) (fun H locs hP hS => ?_)
    refine lv_if_eq (tgt := 42) hx hb dX5_fitsInPart_22 (by decide) (fun c11 => ?_) (fun c11 => ?_)
    · have h := oc_t c11 h
      refine lv_iconst (v := (0 : Int32)) hx hb dX5_fitsInPart_42 (by decide) ?_
      cases h
      exact kret_i C0 hP hD hS (by decide) dX5_fitsInPart_43
    · have h := oc_f c11 h
      refine lv_iload_n hx hb dX5_fitsInPart_25 rfl (lv_at hl 3 rfl) ?_
      refine lv_iconst (v := (4 : Int32)) hx hb dX5_fitsInPart_26 (by decide) ?_
      refine lv_icmp_ne (tgt := 38) hx hb dX5_fitsInPart_27 (by decide) (fun c12 => ?_) (fun c12 => ?_)
      · have h := oc_f c12 h
        refine lv_iconst (v := (1 : Int32)) hx hb dX5_fitsInPart_38 (by decide) ?_
        refine lv_goto (tgt := 43) hx hb dX5_fitsInPart_39 (by decide) ?_
        cases h
        exact kret_i C0 hP hD hS (by decide) dX5_fitsInPart_43
      · have h := oc_t c12 h
        refine lv_aload_n hx hb dX5_fitsInPart_30 rfl (lv_at hl 1 rfl) ?_
        refine lv_iload_n hx hb dX5_fitsInPart_31 rfl (lv_at hl 2 rfl) ?_
        obtain ⟨r14, hc13, h⟩ := oc_bind h
        refine kro_i (wc := (WD1 cI cC cZ a_T a_T_letters T_length T_letters)) C0 hP hD hS [0, 1] rfl (kV (n := 1) (As := [.int p1]) (rest := []) (wc := (WD1 cI cC cZ a_T a_T_letters T_length T_letters)) (C := RX5) C0 hP hD hS [0, 1] rfl (by decide) (c_X5_endsWhereItBegins l D cI cC cZ a_T a_T_letters H.size T_length T_letters p1 r14 hc13) kw_164 kw_161 kw_162 kw_163 kw_15 (by decide +kernel) (by decide) rfl rfl rfl hl.1 rfl (Nat.le_of_ble_eq_true rfl) ⟨Nat.zero_le _, Nat.zero_le _⟩ dX5_fitsInPart_32) (fun H locs hP hS => ?_)
        refine lv_if_ne (tgt := 42) hx hb dX5_fitsInPart_35 (by decide) (fun c15 => ?_) (fun c15 => ?_)
        · have h := oc_f c15 h
          refine lv_iconst (v := (0 : Int32)) hx hb dX5_fitsInPart_42 (by decide) ?_
          cases h
          exact kret_i C0 hP hD hS (by decide) dX5_fitsInPart_43
        · have h := oc_t c15 h
          refine lv_iconst (v := (1 : Int32)) hx hb dX5_fitsInPart_38 (by decide) ?_
          refine lv_goto (tgt := 43) hx hb dX5_fitsInPart_39 (by decide) ?_
          cases h
          exact kret_i C0 hP hD hS (by decide) dX5_fitsInPart_43
abbrev rm_X5_partsAhead : Room := { frames := 1, cells := 0, slots := 0, locals := 21 }
noncomputable def bk_X5_partsAhead_6 (k6 : Int32 → Int32 → Option (Int32)) (T_length : Int32) (T_letters : Nat → Int32) (p1 : Int32) (p2 : Int32) (p3 : Int32) (p4 : Int32) : Option (Int32) := if p2 ≤ p4 then (some p3) else ((f_X5_letterAt T_length T_letters p4).bind (fun r3 => if r3 = p1 then (nm_ (p3 + (1 : Int32)) (fun t6 => nm_ (p4 + (5 : Int32)) (fun t7 => k6 t6 t7))) else (nm_ (p4 + (5 : Int32)) (fun t5 => k6 p3 t5))))
set_option maxHeartbeats 4000000 in
set_option maxRecDepth 100000 in
theorem wk_X5_partsAhead_6 {p : Program} {l : Launch} {e : Env} {s : State} {m : MethodId} {args : Array Value} {below : List Frame} {meth : Method} {c : Code} {D : va_G} {cI cC cZ : ClassId} {A : Nat → Prop} {a_T a_T_letters : Nat} {T_length : Int32} {T_letters : Nat → Int32} {p1 : Int32} {p2 : Int32} {p3 : Int32} {p4 : Int32} {k6 : Int32 → Int32 → Option (Int32)} {rr : Int32} (C0 : kC p s m args meth c D (kTY cI cC cZ) cX5_partsAhead (some .int) 5 RX5 A) (hk6 : ∀ (p3_k : Int32) (p4_k : Int32), k6 p3_k p4_k = some rr → ∀ (H : Heap) (locs : List Loc), va_P D vwCl (WD1 cI cC cZ a_T a_T_letters T_length T_letters) H → va_D A (WD1 cI cC cZ a_T a_T_letters T_length T_letters) → va_S A s.heap H locs → ∀ ls : Array Slot, lv_has ls 5 [(0, .ref a_T), (1, .int p1), (2, .int p2), (3, .int p3_k), (4, .int p4_k)] → W p l e rm_X5_partsAhead s m args below meth c H locs 0 0 (MQ below (kQI D (kTY cI cC cZ) A rr (WD1 cI cC cZ a_T a_T_letters T_length T_letters)) args s 0 0 A) (F0 m 6 ls [])) (h : bk_X5_partsAhead_6 k6 T_length T_letters p1 p2 p3 p4 = some rr) {H : Heap} {locs : List Loc} (hP : va_P D vwCl (WD1 cI cC cZ a_T a_T_letters T_length T_letters) H) (hD : va_D A (WD1 cI cC cZ a_T a_T_letters T_length T_letters)) (hS : va_S A s.heap H locs) {ls : Array Slot} (hl : lv_has ls 5 [(0, .ref a_T), (1, .int p1), (2, .int p2), (3, .int p3), (4, .int p4)]) : W p l e rm_X5_partsAhead s m args below meth c H locs 0 0 (MQ below (kQI D (kTY cI cC cZ) A rr (WD1 cI cC cZ a_T a_T_letters T_length T_letters)) args s 0 0 A) (F0 m 6 ls []) := by
  obtain ⟨hx, hb, hr, hml, hown, hts, hK, hN, hA, hlocks, hF⟩ := id C0
  unfold bk_X5_partsAhead_6 at h
  refine lv_iload hx hb dX5_partsAhead_6 (lv_at hl 4 rfl) ?_
  refine lv_iload_n hx hb dX5_partsAhead_8 rfl (lv_at hl 2 rfl) ?_
  refine lv_icmp_ge (tgt := 31) hx hb dX5_partsAhead_9 (by decide) (fun c1 => ?_) (fun c1 => ?_)
  · have h := oc_t c1 h
    refine lv_iload_n hx hb dX5_partsAhead_31 rfl (lv_at hl 3 rfl) ?_
    cases h
    exact kret_i C0 hP hD hS rfl dX5_partsAhead_32
  · have h := oc_f c1 h
    refine lv_aload_n hx hb dX5_partsAhead_12 rfl (lv_at hl 0 rfl) ?_
    refine lv_iload hx hb dX5_partsAhead_13 (lv_at hl 4 rfl) ?_
    obtain ⟨r3, hc2, h⟩ := oc_bind h
    refine kro_i (wc := (WD1 cI cC cZ a_T a_T_letters T_length T_letters)) C0 hP hD hS [0, 1] rfl (kV (n := 1) (As := [.int p4]) (rest := []) (wc := (WD1 cI cC cZ a_T a_T_letters T_length T_letters)) (C := RX5) C0 hP hD hS [0, 1] rfl (by decide) (c_X5_letterAt l D cI cC cZ a_T a_T_letters H.size T_length T_letters p4 r3 hc2) kw_137 kw_134 kw_135 kw_136 kw_15 (by decide +kernel) (by decide) rfl rfl rfl hl.1 rfl (Nat.le_of_ble_eq_true rfl) ⟨Nat.zero_le _, Nat.zero_le _⟩ dX5_partsAhead_15) (fun H locs hP hS => ?_)
    refine lv_iload_n hx hb dX5_partsAhead_18 rfl (lv_at hl 1 rfl) ?_
    refine lv_icmp_ne (tgt := 25) hx hb dX5_partsAhead_19 (by decide) (fun c4 => ?_) (fun c4 => ?_)
    · have h := oc_f c4 h
      obtain ⟨t5, e_t5⟩ : ∃ y : Int32, y = p4 + (5 : Int32) := ⟨_, rfl⟩
      have h := oc_nm e_t5 h
      refine lv_iinc (v := t5) (lv' := [(4, .int t5), (0, .ref a_T), (1, .int p1), (2, .int p2), (3, .int p3)]) hx hb dX5_partsAhead_25 hl (k := 4) rfl (by rw [e_t5]; rfl) (by decide) rfl (fun ls hl => ?_)
      refine lv_goto (tgt := 6) hx hb dX5_partsAhead_28 (by decide) ?_
      exact hk6 _ _ h _ _ hP hD hS _ (lv_sub hl [1, 2, 3, 4, 0] rfl)
    · have h := oc_t c4 h
      obtain ⟨t6, e_t6⟩ : ∃ y : Int32, y = p3 + (1 : Int32) := ⟨_, rfl⟩
      have h := oc_nm e_t6 h
      refine lv_iinc (v := t6) (lv' := [(3, .int t6), (0, .ref a_T), (1, .int p1), (2, .int p2), (4, .int p4)]) hx hb dX5_partsAhead_22 hl (k := 3) rfl (by rw [e_t6]; rfl) (by decide) rfl (fun ls hl => ?_)
      obtain ⟨t7, e_t7⟩ : ∃ y : Int32, y = p4 + (5 : Int32) := ⟨_, rfl⟩
      have h := oc_nm e_t7 h
      refine lv_iinc (v := t7) (lv' := [(4, .int t7), (3, .int t6), (0, .ref a_T), (1, .int p1), (2, .int p2)]) hx hb dX5_partsAhead_25 hl (k := 4) rfl (by rw [e_t7]; rfl) (by decide) rfl (fun ls hl => ?_)
      refine lv_goto (tgt := 6) hx hb dX5_partsAhead_28 (by decide) ?_
      exact hk6 _ _ h _ _ hP hD hS _ (lv_sub hl [2, 3, 4, 1, 0] rfl)
noncomputable def lp_X5_partsAhead_6  (T_length : Int32) (T_letters : Nat → Int32) (p1 : Int32) (p2 : Int32) (n : Nat) : Int32 → Int32 → Option (Int32) := Nat.rec (motive := fun _ => Int32 → Int32 → Option (Int32)) (fun _ _ => none) (fun _ ih => bk_X5_partsAhead_6  ih T_length T_letters p1 p2) n
set_option maxHeartbeats 4000000 in
set_option maxRecDepth 100000 in
theorem wl_X5_partsAhead_6 {p : Program} {l : Launch} {e : Env} {s : State} {m : MethodId} {args : Array Value} {below : List Frame} {meth : Method} {c : Code} {D : va_G} {cI cC cZ : ClassId} {A : Nat → Prop} {a_T a_T_letters : Nat} {T_length : Int32} {T_letters : Nat → Int32} {p1 : Int32} {p2 : Int32}  {rr : Int32} (C0 : kC p s m args meth c D (kTY cI cC cZ) cX5_partsAhead (some .int) 5 RX5 A)  : ∀ (n : Nat) (p3 : Int32) (p4 : Int32), lp_X5_partsAhead_6  T_length T_letters p1 p2 n p3 p4 = some rr → ∀ (H : Heap) (locs : List Loc), va_P D vwCl (WD1 cI cC cZ a_T a_T_letters T_length T_letters) H → va_D A (WD1 cI cC cZ a_T a_T_letters T_length T_letters) → va_S A s.heap H locs → ∀ ls : Array Slot, lv_has ls 5 [(0, .ref a_T), (1, .int p1), (2, .int p2), (3, .int p3), (4, .int p4)] → W p l e rm_X5_partsAhead s m args below meth c H locs 0 0 (MQ below (kQI D (kTY cI cC cZ) A rr (WD1 cI cC cZ a_T a_T_letters T_length T_letters)) args s 0 0 A) (F0 m 6 ls []) := by
  intro n
  induction n with
  | zero => intro p3 p4 h; cases (show (none : Option (Int32)) = some _ from h)
  | succ n ih =>
    intro p3 p4 h H locs hP hD hS ls hl
    exact wk_X5_partsAhead_6 C0  (fun p3 p4 h H locs hP hD hS ls hl => ih p3 p4 h H locs hP hD hS ls hl) (show bk_X5_partsAhead_6  (lp_X5_partsAhead_6  T_length T_letters p1 p2 n) T_length T_letters p1 p2 p3 p4 = some _ from h) hP hD hS hl
noncomputable def f_X5_partsAhead (T_length : Int32) (T_letters : Nat → Int32) (p1 : Int32) (p2 : Int32) : Option (Int32) := lp_X5_partsAhead_6  T_length T_letters p1 p2 1000 (0 : Int32) (12 : Int32)
set_option maxHeartbeats 4000000 in
set_option maxRecDepth 100000 in
theorem c_X5_partsAhead (l : Launch) (D : va_G) (cI cC cZ : ClassId) (a_T a_T_letters : Nat) (sz : Nat) (T_length : Int32) (T_letters : Nat → Int32) (p1 : Int32) (p2 : Int32) (rr : Int32) (hf : f_X5_partsAhead T_length T_letters p1 p2 = some rr) : kMet l yX5_partsAhead cX5_partsAhead 5 (some .int) rm_X5_partsAhead D (kTY cI cC cZ) [.ref a_T, .int p1, .int p2] (WD1 cI cC cZ a_T a_T_letters T_length T_letters) sz (kQI D (kTY cI cC cZ) (va_A (WD1 cI cC cZ a_T a_T_letters T_length T_letters) sz) rr (WD1 cI cC cZ a_T a_T_letters T_length T_letters)) := by
  refine kEnter (lv := [(0, .ref a_T), (1, .int p1), (2, .int p2)]) (own := RX5) (by decide) rfl (Nat.le_of_ble_eq_true rfl) rfl ?_
  intro p e s m below meth c hsz C0 hP hD hS ls hl
  generalize (va_A (WD1 cI cC cZ a_T a_T_letters T_length T_letters) sz) = A at C0 hD hS ⊢
  clear hsz hS
  obtain ⟨H, hHs⟩ : ∃ H : Heap, H = s.heap := ⟨_, rfl⟩
  have hS : va_S A s.heap H [] := by rw [hHs]; exact va_S.rf
  rw [← hHs] at hP ⊢
  obtain ⟨hx, hb, hr, hml, hown, hts, hK, hN, hA, hlocks, hF⟩ := id C0
  have h := hf
  unfold f_X5_partsAhead at h
  refine lv_iconst (v := (0 : Int32)) hx hb dX5_partsAhead_0 (by decide) ?_
  refine lv_istore_n (lv' := [(3, .int (0 : Int32)), (0, .ref a_T), (1, .int p1), (2, .int p2)]) hx hb dX5_partsAhead_1 rfl hl (by decide) rfl (fun ls hl => ?_)
  refine lv_bipush (v := (12 : Int32)) hx hb dX5_partsAhead_2 (by decide) ?_
  refine lv_istore (lv' := [(4, .int (12 : Int32)), (3, .int (0 : Int32)), (0, .ref a_T), (1, .int p1), (2, .int p2)]) hx hb dX5_partsAhead_4 hl (by decide) rfl (fun ls hl => ?_)
  exact wl_X5_partsAhead_6 C0  _ _ _ h _ _ hP hD hS _ (lv_sub hl [2, 3, 4, 1, 0] rfl)
abbrev rm_X5_mostParts : Room := { frames := 0, cells := 0, slots := 0, locals := 0 }
noncomputable def f_X5_mostParts  (p0 : Int32) : Option (Int32) := if p0 = (115 : Int32) then (some (8 : Int32)) else (if p0 = (102 : Int32) then (some (6 : Int32)) else (if p0 = (119 : Int32) then (some (5 : Int32)) else (some (0 : Int32))))
set_option maxHeartbeats 4000000 in
set_option maxRecDepth 100000 in
theorem c_X5_mostParts (l : Launch) (D : va_G) (cI cC cZ : ClassId) (sz : Nat) (p0 : Int32) (rr : Int32) (hf : f_X5_mostParts p0 = some rr) : kMet l yX5_mostParts cX5_mostParts 1 (some .int) rm_X5_mostParts D (kTY cI cC cZ) [.int p0] (WD0 cI cC cZ) sz (kQI D (kTY cI cC cZ) (va_A (WD0 cI cC cZ) sz) rr (WD0 cI cC cZ)) := by
  refine kEnter (lv := [(0, .int p0)]) (own := RX5) (by decide) rfl (Nat.le_of_ble_eq_true rfl) rfl ?_
  intro p e s m below meth c hsz C0 hP hD hS ls hl
  generalize (va_A (WD0 cI cC cZ) sz) = A at C0 hD hS ⊢
  clear hsz hS
  obtain ⟨H, hHs⟩ : ∃ H : Heap, H = s.heap := ⟨_, rfl⟩
  have hS : va_S A s.heap H [] := by rw [hHs]; exact va_S.rf
  rw [← hHs] at hP ⊢
  obtain ⟨hx, hb, hr, hml, hown, hts, hK, hN, hA, hlocks, hF⟩ := id C0
  have h := hf
  unfold f_X5_mostParts at h
  refine lv_iload_n hx hb dX5_mostParts_0 rfl (lv_at hl 0 rfl) ?_
  refine lv_bipush (v := (115 : Int32)) hx hb dX5_mostParts_1 (by decide) ?_
  refine lv_icmp_ne (tgt := 9) hx hb dX5_mostParts_3 (by decide) (fun c1 => ?_) (fun c1 => ?_)
  · have h := oc_f c1 h
    refine lv_iload_n hx hb dX5_mostParts_9 rfl (lv_at hl 0 rfl) ?_
    refine lv_bipush (v := (102 : Int32)) hx hb dX5_mostParts_10 (by decide) ?_
    refine lv_icmp_ne (tgt := 18) hx hb dX5_mostParts_12 (by decide) (fun c2 => ?_) (fun c2 => ?_)
    · have h := oc_f c2 h
      refine lv_iload_n hx hb dX5_mostParts_18 rfl (lv_at hl 0 rfl) ?_
      refine lv_bipush (v := (119 : Int32)) hx hb dX5_mostParts_19 (by decide) ?_
      refine lv_icmp_ne (tgt := 28) hx hb dX5_mostParts_21 (by decide) (fun c3 => ?_) (fun c3 => ?_)
      · have h := oc_f c3 h
        refine lv_iconst (v := (0 : Int32)) hx hb dX5_mostParts_28 (by decide) ?_
        cases h
        exact kret_i C0 hP hD hS rfl dX5_mostParts_29
      · have h := oc_t c3 h
        refine lv_iconst (v := (5 : Int32)) hx hb dX5_mostParts_24 (by decide) ?_
        refine lv_goto (tgt := 29) hx hb dX5_mostParts_25 (by decide) ?_
        cases h
        exact kret_i C0 hP hD hS rfl dX5_mostParts_29
    · have h := oc_t c2 h
      refine lv_bipush (v := (6 : Int32)) hx hb dX5_mostParts_15 (by decide) ?_
      cases h
      exact kret_i C0 hP hD hS rfl dX5_mostParts_17
  · have h := oc_t c1 h
    refine lv_bipush (v := (8 : Int32)) hx hb dX5_mostParts_6 (by decide) ?_
    cases h
    exact kret_i C0 hP hD hS rfl dX5_mostParts_8
abbrev rm_X5_mayBegin : Room := { frames := 2, cells := 0, slots := 0, locals := 45 }
noncomputable def f_X5_mayBegin (T_length : Int32) (T_letters : Nat → Int32) (p1 : Int32) : Option (Int32) := (f_X5_letterAt T_length T_letters p1).bind (fun r2 => (f_X5_partsAhead T_length T_letters r2 p1).bind (fun r4 => (f_X5_mostParts r2).bind (fun r6 => if r6 ≤ r4 then (some (0 : Int32)) else (some (1 : Int32)))))
set_option maxHeartbeats 4000000 in
set_option maxRecDepth 100000 in
theorem c_X5_mayBegin (l : Launch) (D : va_G) (cI cC cZ : ClassId) (a_T a_T_letters : Nat) (sz : Nat) (T_length : Int32) (T_letters : Nat → Int32) (p1 : Int32) (rr : Int32) (hf : f_X5_mayBegin T_length T_letters p1 = some rr) : kMet l yX5_mayBegin cX5_mayBegin 3 (some .boolean) rm_X5_mayBegin D (kTY cI cC cZ) [.ref a_T, .int p1] (WD1 cI cC cZ a_T a_T_letters T_length T_letters) sz (kQI D (kTY cI cC cZ) (va_A (WD1 cI cC cZ a_T a_T_letters T_length T_letters) sz) rr (WD1 cI cC cZ a_T a_T_letters T_length T_letters)) := by
  refine kEnter (lv := [(0, .ref a_T), (1, .int p1)]) (own := RX5) (by decide) rfl (Nat.le_of_ble_eq_true rfl) rfl ?_
  intro p e s m below meth c hsz C0 hP hD hS ls hl
  generalize (va_A (WD1 cI cC cZ a_T a_T_letters T_length T_letters) sz) = A at C0 hD hS ⊢
  clear hsz hS
  obtain ⟨H, hHs⟩ : ∃ H : Heap, H = s.heap := ⟨_, rfl⟩
  have hS : va_S A s.heap H [] := by rw [hHs]; exact va_S.rf
  rw [← hHs] at hP ⊢
  obtain ⟨hx, hb, hr, hml, hown, hts, hK, hN, hA, hlocks, hF⟩ := id C0
  have h := hf
  unfold f_X5_mayBegin at h
  refine lv_aload_n hx hb dX5_mayBegin_0 rfl (lv_at hl 0 rfl) ?_
  refine lv_iload_n hx hb dX5_mayBegin_1 rfl (lv_at hl 1 rfl) ?_
  obtain ⟨r2, hc1, h⟩ := oc_bind h
  refine kro_i (wc := (WD1 cI cC cZ a_T a_T_letters T_length T_letters)) C0 hP hD hS [0, 1] rfl (kV (n := 1) (As := [.int p1]) (rest := []) (wc := (WD1 cI cC cZ a_T a_T_letters T_length T_letters)) (C := RX5) C0 hP hD hS [0, 1] rfl (by decide) (c_X5_letterAt l D cI cC cZ a_T a_T_letters H.size T_length T_letters p1 r2 hc1) kw_137 kw_134 kw_135 kw_136 kw_15 (by decide +kernel) (by decide) rfl rfl rfl hl.1 rfl (Nat.le_of_ble_eq_true rfl) ⟨Nat.zero_le _, Nat.zero_le _⟩ dX5_mayBegin_2) (fun H locs hP hS => ?_)
  refine lv_istore_n (lv' := [(2, .int r2), (0, .ref a_T), (1, .int p1)]) hx hb dX5_mayBegin_5 rfl hl (by decide) rfl (fun ls hl => ?_)
  refine lv_aload_n hx hb dX5_mayBegin_6 rfl (lv_at hl 1 rfl) ?_
  refine lv_iload_n hx hb dX5_mayBegin_7 rfl (lv_at hl 0 rfl) ?_
  refine lv_iload_n hx hb dX5_mayBegin_8 rfl (lv_at hl 2 rfl) ?_
  obtain ⟨r4, hc3, h⟩ := oc_bind h
  refine kro_i (wc := (WD1 cI cC cZ a_T a_T_letters T_length T_letters)) C0 hP hD hS [0, 1] rfl (kV (n := 2) (As := [.int r2, .int p1]) (rest := []) (wc := (WD1 cI cC cZ a_T a_T_letters T_length T_letters)) (C := RX5) C0 hP hD hS [0, 1] rfl (by decide) (c_X5_partsAhead l D cI cC cZ a_T a_T_letters H.size T_length T_letters r2 p1 r4 hc3) kw_153 kw_150 kw_151 kw_152 kw_15 (by decide +kernel) (by decide) rfl rfl rfl hl.1 rfl (Nat.le_of_ble_eq_true rfl) ⟨Nat.zero_le _, Nat.zero_le _⟩ dX5_mayBegin_9) (fun H locs hP hS => ?_)
  refine lv_iload_n hx hb dX5_mayBegin_12 rfl (lv_at hl 0 rfl) ?_
  obtain ⟨r6, hc5, h⟩ := oc_bind h
  refine kro_i (wc := (WD0 cI cC cZ)) C0 hP hD hS [] rfl (kS (n := 1) (As := [.int r2]) (rest := [.int r4]) (wc := (WD0 cI cC cZ)) C0 hP hD hS [] rfl (by decide) (c_X5_mostParts l D cI cC cZ  H.size  r2 r6 hc5) kw_156 kw_154 kw_155 kw_15 (by decide +kernel) (by decide) rfl hl.1 rfl (Nat.le_of_ble_eq_true rfl) ⟨Nat.zero_le _, Nat.zero_le _⟩ dX5_mayBegin_13) (fun H locs hP hS => ?_)
  refine lv_icmp_ge (tgt := 23) hx hb dX5_mayBegin_16 (by decide) (fun c7 => ?_) (fun c7 => ?_)
  · have h := oc_t c7 h
    refine lv_iconst (v := (0 : Int32)) hx hb dX5_mayBegin_23 (by decide) ?_
    cases h
    exact kret_i C0 hP hD hS (by decide) dX5_mayBegin_24
  · have h := oc_f c7 h
    refine lv_iconst (v := (1 : Int32)) hx hb dX5_mayBegin_19 (by decide) ?_
    refine lv_goto (tgt := 24) hx hb dX5_mayBegin_20 (by decide) ?_
    cases h
    exact kret_i C0 hP hD hS (by decide) dX5_mayBegin_24
abbrev rm_X5_fits : Room := { frames := 4, cells := 0, slots := 0, locals := 89 }
noncomputable def f_X5_fits (T_length : Int32) (T_letters : Nat → Int32) (p1 : Int32) : Option (Int32) := if p1 = 0 then ((f_X5_letterAt T_length T_letters p1).bind (fun r15 => if r15 = (76 : Int32) then (some (1 : Int32)) else (some (0 : Int32)))) else (if (12 : Int32) ≤ p1 then (nm_ ((p1 - (12 : Int32)) - (p1 - (12 : Int32)) / (5 : Int32) * (5 : Int32)) (fun t3 => if t3 = 0 then ((f_X5_mayBegin T_length T_letters p1).bind (fun r9 => if r9 &&& 1 = r9 then (some r9) else none)) else ((f_X5_fitsInPart T_length T_letters p1 t3).bind (fun r6 => if r6 &&& 1 = r6 then (some r6) else none)))) else ((f_X5_isWithin T_length T_letters p1 (0 : Int32) (9 : Int32)).bind (fun r12 => if r12 &&& 1 = r12 then (some r12) else none)))
set_option maxHeartbeats 4000000 in
set_option maxRecDepth 100000 in
theorem c_X5_fits (l : Launch) (D : va_G) (cI cC cZ : ClassId) (a_T a_T_letters : Nat) (sz : Nat) (T_length : Int32) (T_letters : Nat → Int32) (p1 : Int32) (rr : Int32) (hf : f_X5_fits T_length T_letters p1 = some rr) : kMet l yX5_fits cX5_fits 3 (some .boolean) rm_X5_fits D (kTY cI cC cZ) [.ref a_T, .int p1] (WD1 cI cC cZ a_T a_T_letters T_length T_letters) sz (kQI D (kTY cI cC cZ) (va_A (WD1 cI cC cZ a_T a_T_letters T_length T_letters) sz) rr (WD1 cI cC cZ a_T a_T_letters T_length T_letters)) := by
  refine kEnter (lv := [(0, .ref a_T), (1, .int p1)]) (own := RX5) (by decide) rfl (Nat.le_of_ble_eq_true rfl) rfl ?_
  intro p e s m below meth c hsz C0 hP hD hS ls hl
  generalize (va_A (WD1 cI cC cZ a_T a_T_letters T_length T_letters) sz) = A at C0 hD hS ⊢
  clear hsz hS
  obtain ⟨H, hHs⟩ : ∃ H : Heap, H = s.heap := ⟨_, rfl⟩
  have hS : va_S A s.heap H [] := by rw [hHs]; exact va_S.rf
  rw [← hHs] at hP ⊢
  obtain ⟨hx, hb, hr, hml, hown, hts, hK, hN, hA, hlocks, hF⟩ := id C0
  have h := hf
  unfold f_X5_fits at h
  refine lv_iload_n hx hb dX5_fits_0 rfl (lv_at hl 1 rfl) ?_
  refine lv_if_ne (tgt := 20) hx hb dX5_fits_1 (by decide) (fun c1 => ?_) (fun c1 => ?_)
  · have h := oc_f c1 h
    refine lv_iload_n hx hb dX5_fits_20 rfl (lv_at hl 1 rfl) ?_
    refine lv_bipush (v := (12 : Int32)) hx hb dX5_fits_21 (by decide) ?_
    refine lv_icmp_ge (tgt := 35) hx hb dX5_fits_23 (by decide) (fun c2 => ?_) (fun c2 => ?_)
    · have h := oc_t c2 h
      refine lv_iload_n hx hb dX5_fits_35 rfl (lv_at hl 1 rfl) ?_
      refine lv_bipush (v := (12 : Int32)) hx hb dX5_fits_36 (by decide) ?_
      refine lv_isub hx hb dX5_fits_38 ?_
      refine lv_iconst (v := (5 : Int32)) hx hb dX5_fits_39 (by decide) ?_
      refine lv_irem hx hb dX5_fits_40 (by decide) ?_
      refine lv_topi (fun t3 e_t3 => ?_)
      have h := oc_nm e_t3 h
      refine lv_istore_n (lv' := [(2, .int t3), (0, .ref a_T), (1, .int p1)]) hx hb dX5_fits_41 rfl hl (by decide) rfl (fun ls hl => ?_)
      refine lv_iload_n hx hb dX5_fits_42 rfl (lv_at hl 0 rfl) ?_
      refine lv_if_ne (tgt := 54) hx hb dX5_fits_43 (by decide) (fun c4 => ?_) (fun c4 => ?_)
      · have h := oc_f c4 h
        refine lv_aload_n hx hb dX5_fits_54 rfl (lv_at hl 1 rfl) ?_
        refine lv_iload_n hx hb dX5_fits_55 rfl (lv_at hl 2 rfl) ?_
        refine lv_iload_n hx hb dX5_fits_56 rfl (lv_at hl 0 rfl) ?_
        obtain ⟨r6, hc5, h⟩ := oc_bind h
        refine kro_i (wc := (WD1 cI cC cZ a_T a_T_letters T_length T_letters)) C0 hP hD hS [0, 1] rfl (kV (n := 2) (As := [.int p1, .int t3]) (rest := []) (wc := (WD1 cI cC cZ a_T a_T_letters T_length T_letters)) (C := RX5) C0 hP hD hS [0, 1] rfl (by decide) (c_X5_fitsInPart l D cI cC cZ a_T a_T_letters H.size T_length T_letters p1 t3 r6 hc5) kw_160 kw_157 kw_158 kw_159 kw_15 (by decide +kernel) (by decide) rfl rfl rfl hl.1 rfl (Nat.le_of_ble_eq_true rfl) ⟨Nat.zero_le _, Nat.zero_le _⟩ dX5_fits_57) (fun H locs hP hS => ?_)
        obtain ⟨hn7, h⟩ := oc_then h
        cases h
        exact kret_i C0 hP hD hS (kn_bool hn7) dX5_fits_60
      · have h := oc_t c4 h
        refine lv_aload_n hx hb dX5_fits_46 rfl (lv_at hl 1 rfl) ?_
        refine lv_iload_n hx hb dX5_fits_47 rfl (lv_at hl 2 rfl) ?_
        obtain ⟨r9, hc8, h⟩ := oc_bind h
        refine kro_i (wc := (WD1 cI cC cZ a_T a_T_letters T_length T_letters)) C0 hP hD hS [0, 1] rfl (kV (n := 1) (As := [.int p1]) (rest := []) (wc := (WD1 cI cC cZ a_T a_T_letters T_length T_letters)) (C := RX5) C0 hP hD hS [0, 1] rfl (by decide) (c_X5_mayBegin l D cI cC cZ a_T a_T_letters H.size T_length T_letters p1 r9 hc8) kw_149 kw_146 kw_147 kw_148 kw_15 (by decide +kernel) (by decide) rfl rfl rfl hl.1 rfl (Nat.le_of_ble_eq_true rfl) ⟨Nat.zero_le _, Nat.zero_le _⟩ dX5_fits_48) (fun H locs hP hS => ?_)
        refine lv_goto (tgt := 60) hx hb dX5_fits_51 (by decide) ?_
        obtain ⟨hn10, h⟩ := oc_then h
        cases h
        exact kret_i C0 hP hD hS (kn_bool hn10) dX5_fits_60
    · have h := oc_f c2 h
      refine lv_aload_n hx hb dX5_fits_26 rfl (lv_at hl 0 rfl) ?_
      refine lv_iload_n hx hb dX5_fits_27 rfl (lv_at hl 1 rfl) ?_
      refine lv_iconst (v := (0 : Int32)) hx hb dX5_fits_28 (by decide) ?_
      refine lv_bipush (v := (9 : Int32)) hx hb dX5_fits_29 (by decide) ?_
      obtain ⟨r12, hc11, h⟩ := oc_bind h
      refine kro_i (wc := (WD1 cI cC cZ a_T a_T_letters T_length T_letters)) C0 hP hD hS [0, 1] rfl (kV (n := 3) (As := [.int p1, .int (0 : Int32), .int (9 : Int32)]) (rest := []) (wc := (WD1 cI cC cZ a_T a_T_letters T_length T_letters)) (C := RX5) C0 hP hD hS [0, 1] rfl (by decide) (c_X5_isWithin l D cI cC cZ a_T a_T_letters H.size T_length T_letters p1 (0 : Int32) (9 : Int32) r12 hc11) kw_141 kw_138 kw_139 kw_140 kw_15 (by decide +kernel) (by decide) rfl rfl rfl hl.1 rfl (Nat.le_of_ble_eq_true rfl) ⟨Nat.zero_le _, Nat.zero_le _⟩ dX5_fits_31) (fun H locs hP hS => ?_)
      obtain ⟨hn13, h⟩ := oc_then h
      cases h
      exact kret_i C0 hP hD hS (kn_bool hn13) dX5_fits_34
  · have h := oc_t c1 h
    refine lv_aload_n hx hb dX5_fits_4 rfl (lv_at hl 0 rfl) ?_
    refine lv_iload_n hx hb dX5_fits_5 rfl (lv_at hl 1 rfl) ?_
    obtain ⟨r15, hc14, h⟩ := oc_bind h
    refine kro_i (wc := (WD1 cI cC cZ a_T a_T_letters T_length T_letters)) C0 hP hD hS [0, 1] rfl (kV (n := 1) (As := [.int p1]) (rest := []) (wc := (WD1 cI cC cZ a_T a_T_letters T_length T_letters)) (C := RX5) C0 hP hD hS [0, 1] rfl (by decide) (c_X5_letterAt l D cI cC cZ a_T a_T_letters H.size T_length T_letters p1 r15 hc14) kw_137 kw_134 kw_135 kw_136 kw_15 (by decide +kernel) (by decide) rfl rfl rfl hl.1 rfl (Nat.le_of_ble_eq_true rfl) ⟨Nat.zero_le _, Nat.zero_le _⟩ dX5_fits_6) (fun H locs hP hS => ?_)
    refine lv_bipush (v := (76 : Int32)) hx hb dX5_fits_9 (by decide) ?_
    refine lv_icmp_ne (tgt := 18) hx hb dX5_fits_11 (by decide) (fun c16 => ?_) (fun c16 => ?_)
    · have h := oc_f c16 h
      refine lv_iconst (v := (0 : Int32)) hx hb dX5_fits_18 (by decide) ?_
      cases h
      exact kret_i C0 hP hD hS (by decide) dX5_fits_19
    · have h := oc_t c16 h
      refine lv_iconst (v := (1 : Int32)) hx hb dX5_fits_14 (by decide) ?_
      refine lv_goto (tgt := 19) hx hb dX5_fits_15 (by decide) ?_
      cases h
      exact kret_i C0 hP hD hS (by decide) dX5_fits_19
abbrev rm_X5_firstFault : Room := { frames := 5, cells := 0, slots := 0, locals := 111 }
noncomputable def bk_X5_firstFault_52  (T_length : Int32) (s0 : Int32) : Option (Int32) := if s0 = 0 then (some T_length) else (some (-9 : Int32))
set_option maxHeartbeats 4000000 in
set_option maxRecDepth 100000 in
theorem wk_X5_firstFault_52 {p : Program} {l : Launch} {e : Env} {s : State} {m : MethodId} {args : Array Value} {below : List Frame} {meth : Method} {c : Code} {D : va_G} {cI cC cZ : ClassId} {A : Nat → Prop} {a_T a_T_letters : Nat} {T_length : Int32} {T_letters : Nat → Int32} {s0 : Int32}  {rr : Int32} (C0 : kC p s m args meth c D (kTY cI cC cZ) cX5_firstFault (some .int) 2 RX5 A)  (h : bk_X5_firstFault_52  T_length s0 = some rr) {H : Heap} {locs : List Loc} (hP : va_P D vwCl (WD1 cI cC cZ a_T a_T_letters T_length T_letters) H) (hD : va_D A (WD1 cI cC cZ a_T a_T_letters T_length T_letters)) (hS : va_S A s.heap H locs) {ls : Array Slot} (hl : lv_has ls 2 [(0, .ref a_T)]) : W p l e rm_X5_firstFault s m args below meth c H locs 0 0 (MQ below (kQI D (kTY cI cC cZ) A rr (WD1 cI cC cZ a_T a_T_letters T_length T_letters)) args s 0 0 A) (F0 m 52 ls [.int s0]) := by
  obtain ⟨hx, hb, hr, hml, hown, hts, hK, hN, hA, hlocks, hF⟩ := id C0
  unfold bk_X5_firstFault_52 at h
  refine lv_istore_n (lv' := [(1, .int s0), (0, .ref a_T)]) hx hb dX5_firstFault_52 rfl hl (by decide) rfl (fun ls hl => ?_)
  refine lv_iload_n hx hb dX5_firstFault_53 rfl (lv_at hl 0 rfl) ?_
  refine lv_if_eq (tgt := 62) hx hb dX5_firstFault_54 (by decide) (fun c1 => ?_) (fun c1 => ?_)
  · have h := oc_t c1 h
    refine lv_aload_n hx hb dX5_firstFault_62 rfl (lv_at hl 1 rfl) ?_
    refine va_get (D := D) (ci := 5) (v := .int T_length) (C := RX5) (T := TX5) (N := 2) hx hb hts inlX5 hown hK hP 0 rfl rfl 1 (by decide) (hts _ kw_104) (fun _ h9 => h9) rfl dX5_firstFault_63 ?_
    cases h
    exact kret_i C0 hP hD hS rfl dX5_firstFault_66
  · have h := oc_f c1 h
    refine lv_bipush (v := (-9 : Int32)) hx hb dX5_firstFault_57 (by decide) ?_
    refine lv_goto (tgt := 66) hx hb dX5_firstFault_59 (by decide) ?_
    cases h
    exact kret_i C0 hP hD hS rfl dX5_firstFault_66
noncomputable def bk_X5_firstFault_51  (T_length : Int32) : Option (Int32) := bk_X5_firstFault_52  T_length (0 : Int32)
set_option maxHeartbeats 4000000 in
set_option maxRecDepth 100000 in
theorem wk_X5_firstFault_51 {p : Program} {l : Launch} {e : Env} {s : State} {m : MethodId} {args : Array Value} {below : List Frame} {meth : Method} {c : Code} {D : va_G} {cI cC cZ : ClassId} {A : Nat → Prop} {a_T a_T_letters : Nat} {T_length : Int32} {T_letters : Nat → Int32}  {rr : Int32} (C0 : kC p s m args meth c D (kTY cI cC cZ) cX5_firstFault (some .int) 2 RX5 A)  (h : bk_X5_firstFault_51  T_length = some rr) {H : Heap} {locs : List Loc} (hP : va_P D vwCl (WD1 cI cC cZ a_T a_T_letters T_length T_letters) H) (hD : va_D A (WD1 cI cC cZ a_T a_T_letters T_length T_letters)) (hS : va_S A s.heap H locs) {ls : Array Slot} (hl : lv_has ls 2 [(0, .ref a_T)]) : W p l e rm_X5_firstFault s m args below meth c H locs 0 0 (MQ below (kQI D (kTY cI cC cZ) A rr (WD1 cI cC cZ a_T a_T_letters T_length T_letters)) args s 0 0 A) (F0 m 51 ls []) := by
  obtain ⟨hx, hb, hr, hml, hown, hts, hK, hN, hA, hlocks, hF⟩ := id C0
  unfold bk_X5_firstFault_51 at h
  refine lv_iconst (v := (0 : Int32)) hx hb dX5_firstFault_51 (by decide) ?_
  exact wk_X5_firstFault_52 C0  h hP hD hS (lv_sub hl [0] rfl)
noncomputable def bk_X5_firstFault_26  (T_length : Int32) : Option (Int32) := if T_length < (12 : Int32) then (bk_X5_firstFault_51  T_length) else (if ((T_length - (12 : Int32)) - (T_length - (12 : Int32)) / (5 : Int32) * (5 : Int32)) = 0 then (bk_X5_firstFault_52  T_length (1 : Int32)) else (bk_X5_firstFault_51  T_length))
set_option maxHeartbeats 4000000 in
set_option maxRecDepth 100000 in
theorem wk_X5_firstFault_26 {p : Program} {l : Launch} {e : Env} {s : State} {m : MethodId} {args : Array Value} {below : List Frame} {meth : Method} {c : Code} {D : va_G} {cI cC cZ : ClassId} {A : Nat → Prop} {a_T a_T_letters : Nat} {T_length : Int32} {T_letters : Nat → Int32}  {rr : Int32} (C0 : kC p s m args meth c D (kTY cI cC cZ) cX5_firstFault (some .int) 2 RX5 A)  (h : bk_X5_firstFault_26  T_length = some rr) {H : Heap} {locs : List Loc} (hP : va_P D vwCl (WD1 cI cC cZ a_T a_T_letters T_length T_letters) H) (hD : va_D A (WD1 cI cC cZ a_T a_T_letters T_length T_letters)) (hS : va_S A s.heap H locs) {ls : Array Slot} (hl : lv_has ls 2 [(0, .ref a_T)]) : W p l e rm_X5_firstFault s m args below meth c H locs 0 0 (MQ below (kQI D (kTY cI cC cZ) A rr (WD1 cI cC cZ a_T a_T_letters T_length T_letters)) args s 0 0 A) (F0 m 26 ls []) := by
  obtain ⟨hx, hb, hr, hml, hown, hts, hK, hN, hA, hlocks, hF⟩ := id C0
  unfold bk_X5_firstFault_26 at h
  refine lv_aload_n hx hb dX5_firstFault_26 rfl (lv_at hl 0 rfl) ?_
  refine va_get (D := D) (ci := 5) (v := .int T_length) (C := RX5) (T := TX5) (N := 2) hx hb hts inlX5 hown hK hP 0 rfl rfl 1 (by decide) (hts _ kw_104) (fun _ h9 => h9) rfl dX5_firstFault_27 ?_
  refine lv_bipush (v := (12 : Int32)) hx hb dX5_firstFault_30 (by decide) ?_
  refine lv_icmp_lt (tgt := 51) hx hb dX5_firstFault_32 (by decide) (fun c1 => ?_) (fun c1 => ?_)
  · have h := oc_t c1 h
    exact wk_X5_firstFault_51 C0  h hP hD hS (lv_sub hl [0] rfl)
  · have h := oc_f c1 h
    refine lv_aload_n hx hb dX5_firstFault_35 rfl (lv_at hl 0 rfl) ?_
    refine va_get (D := D) (ci := 5) (v := .int T_length) (C := RX5) (T := TX5) (N := 2) hx hb hts inlX5 hown hK hP 0 rfl rfl 1 (by decide) (hts _ kw_104) (fun _ h9 => h9) rfl dX5_firstFault_36 ?_
    refine lv_bipush (v := (12 : Int32)) hx hb dX5_firstFault_39 (by decide) ?_
    refine lv_isub hx hb dX5_firstFault_41 ?_
    refine lv_iconst (v := (5 : Int32)) hx hb dX5_firstFault_42 (by decide) ?_
    refine lv_irem hx hb dX5_firstFault_43 (by decide) ?_
    refine lv_if_ne (tgt := 51) hx hb dX5_firstFault_44 (by decide) (fun c2 => ?_) (fun c2 => ?_)
    · have h := oc_f c2 h
      exact wk_X5_firstFault_51 C0  h hP hD hS (lv_sub hl [0] rfl)
    · have h := oc_t c2 h
      refine lv_iconst (v := (1 : Int32)) hx hb dX5_firstFault_47 (by decide) ?_
      refine lv_goto (tgt := 52) hx hb dX5_firstFault_48 (by decide) ?_
      exact wk_X5_firstFault_52 C0  h hP hD hS (lv_sub hl [0] rfl)
noncomputable def bk_X5_firstFault_2 (k2 : Int32 → Option (Int32)) (T_length : Int32) (T_letters : Nat → Int32) (p1 : Int32) : Option (Int32) := if T_length ≤ p1 then (bk_X5_firstFault_26  T_length) else ((f_X5_fits T_length T_letters p1).bind (fun r3 => if r3 = 0 then (some p1) else (nm_ (p1 + (1 : Int32)) (fun t5 => k2 t5))))
set_option maxHeartbeats 4000000 in
set_option maxRecDepth 100000 in
theorem wk_X5_firstFault_2 {p : Program} {l : Launch} {e : Env} {s : State} {m : MethodId} {args : Array Value} {below : List Frame} {meth : Method} {c : Code} {D : va_G} {cI cC cZ : ClassId} {A : Nat → Prop} {a_T a_T_letters : Nat} {T_length : Int32} {T_letters : Nat → Int32} {p1 : Int32} {k2 : Int32 → Option (Int32)} {rr : Int32} (C0 : kC p s m args meth c D (kTY cI cC cZ) cX5_firstFault (some .int) 2 RX5 A) (hk2 : ∀ (p1_k : Int32), k2 p1_k = some rr → ∀ (H : Heap) (locs : List Loc), va_P D vwCl (WD1 cI cC cZ a_T a_T_letters T_length T_letters) H → va_D A (WD1 cI cC cZ a_T a_T_letters T_length T_letters) → va_S A s.heap H locs → ∀ ls : Array Slot, lv_has ls 2 [(0, .ref a_T), (1, .int p1_k)] → W p l e rm_X5_firstFault s m args below meth c H locs 0 0 (MQ below (kQI D (kTY cI cC cZ) A rr (WD1 cI cC cZ a_T a_T_letters T_length T_letters)) args s 0 0 A) (F0 m 2 ls [])) (h : bk_X5_firstFault_2 k2 T_length T_letters p1 = some rr) {H : Heap} {locs : List Loc} (hP : va_P D vwCl (WD1 cI cC cZ a_T a_T_letters T_length T_letters) H) (hD : va_D A (WD1 cI cC cZ a_T a_T_letters T_length T_letters)) (hS : va_S A s.heap H locs) {ls : Array Slot} (hl : lv_has ls 2 [(0, .ref a_T), (1, .int p1)]) : W p l e rm_X5_firstFault s m args below meth c H locs 0 0 (MQ below (kQI D (kTY cI cC cZ) A rr (WD1 cI cC cZ a_T a_T_letters T_length T_letters)) args s 0 0 A) (F0 m 2 ls []) := by
  obtain ⟨hx, hb, hr, hml, hown, hts, hK, hN, hA, hlocks, hF⟩ := id C0
  unfold bk_X5_firstFault_2 at h
  refine lv_iload_n hx hb dX5_firstFault_2 rfl (lv_at hl 1 rfl) ?_
  refine lv_aload_n hx hb dX5_firstFault_3 rfl (lv_at hl 0 rfl) ?_
  refine va_get (D := D) (ci := 5) (v := .int T_length) (C := RX5) (T := TX5) (N := 2) hx hb hts inlX5 hown hK hP 0 rfl rfl 1 (by decide) (hts _ kw_104) (fun _ h9 => h9) rfl dX5_firstFault_4 ?_
  refine lv_icmp_ge (tgt := 26) hx hb dX5_firstFault_7 (by decide) (fun c1 => ?_) (fun c1 => ?_)
  · have h := oc_t c1 h
    exact wk_X5_firstFault_26 C0  h hP hD hS (lv_sub hl [0] rfl)
  · have h := oc_f c1 h
    refine lv_aload_n hx hb dX5_firstFault_10 rfl (lv_at hl 0 rfl) ?_
    refine lv_iload_n hx hb dX5_firstFault_11 rfl (lv_at hl 1 rfl) ?_
    obtain ⟨r3, hc2, h⟩ := oc_bind h
    refine kro_i (wc := (WD1 cI cC cZ a_T a_T_letters T_length T_letters)) C0 hP hD hS [0, 1] rfl (kV (n := 1) (As := [.int p1]) (rest := []) (wc := (WD1 cI cC cZ a_T a_T_letters T_length T_letters)) (C := RX5) C0 hP hD hS [0, 1] rfl (by decide) (c_X5_fits l D cI cC cZ a_T a_T_letters H.size T_length T_letters p1 r3 hc2) kw_133 kw_130 kw_131 kw_132 kw_15 (by decide +kernel) (by decide) rfl rfl rfl hl.1 rfl (Nat.le_of_ble_eq_true rfl) ⟨Nat.zero_le _, Nat.zero_le _⟩ dX5_firstFault_12) (fun H locs hP hS => ?_)
    refine lv_if_ne (tgt := 20) hx hb dX5_firstFault_15 (by decide) (fun c4 => ?_) (fun c4 => ?_)
    · have h := oc_f c4 h
      obtain ⟨t5, e_t5⟩ : ∃ y : Int32, y = p1 + (1 : Int32) := ⟨_, rfl⟩
      have h := oc_nm e_t5 h
      refine lv_iinc (v := t5) (lv' := [(1, .int t5), (0, .ref a_T)]) hx hb dX5_firstFault_20 hl (k := 1) rfl (by rw [e_t5]; rfl) (by decide) rfl (fun ls hl => ?_)
      refine lv_goto (tgt := 2) hx hb dX5_firstFault_23 (by decide) ?_
      exact hk2 _ h _ _ hP hD hS _ (lv_sub hl [1, 0] rfl)
    · have h := oc_t c4 h
      refine lv_iload_n hx hb dX5_firstFault_18 rfl (lv_at hl 1 rfl) ?_
      cases h
      exact kret_i C0 hP hD hS rfl dX5_firstFault_19
noncomputable def lp_X5_firstFault_2  (T_length : Int32) (T_letters : Nat → Int32) (n : Nat) : Int32 → Option (Int32) := Nat.rec (motive := fun _ => Int32 → Option (Int32)) (fun _ => none) (fun _ ih => bk_X5_firstFault_2  ih T_length T_letters) n
set_option maxHeartbeats 4000000 in
set_option maxRecDepth 100000 in
theorem wl_X5_firstFault_2 {p : Program} {l : Launch} {e : Env} {s : State} {m : MethodId} {args : Array Value} {below : List Frame} {meth : Method} {c : Code} {D : va_G} {cI cC cZ : ClassId} {A : Nat → Prop} {a_T a_T_letters : Nat} {T_length : Int32} {T_letters : Nat → Int32}  {rr : Int32} (C0 : kC p s m args meth c D (kTY cI cC cZ) cX5_firstFault (some .int) 2 RX5 A)  : ∀ (n : Nat) (p1 : Int32), lp_X5_firstFault_2  T_length T_letters n p1 = some rr → ∀ (H : Heap) (locs : List Loc), va_P D vwCl (WD1 cI cC cZ a_T a_T_letters T_length T_letters) H → va_D A (WD1 cI cC cZ a_T a_T_letters T_length T_letters) → va_S A s.heap H locs → ∀ ls : Array Slot, lv_has ls 2 [(0, .ref a_T), (1, .int p1)] → W p l e rm_X5_firstFault s m args below meth c H locs 0 0 (MQ below (kQI D (kTY cI cC cZ) A rr (WD1 cI cC cZ a_T a_T_letters T_length T_letters)) args s 0 0 A) (F0 m 2 ls []) := by
  intro n
  induction n with
  | zero => intro p1 h; cases (show (none : Option (Int32)) = some _ from h)
  | succ n ih =>
    intro p1 h H locs hP hD hS ls hl
    exact wk_X5_firstFault_2 C0  (fun p1 h H locs hP hD hS ls hl => ih p1 h H locs hP hD hS ls hl) (show bk_X5_firstFault_2  (lp_X5_firstFault_2  T_length T_letters n) T_length T_letters p1 = some _ from h) hP hD hS hl
noncomputable def f_X5_firstFault (T_length : Int32) (T_letters : Nat → Int32)  : Option (Int32) := lp_X5_firstFault_2  T_length T_letters 1000 (0 : Int32)
set_option maxHeartbeats 4000000 in
set_option maxRecDepth 100000 in
theorem c_X5_firstFault (l : Launch) (D : va_G) (cI cC cZ : ClassId) (a_T a_T_letters : Nat) (sz : Nat) (T_length : Int32) (T_letters : Nat → Int32) (rr : Int32) (hf : f_X5_firstFault T_length T_letters = some rr) : kMet l yX5_firstFault cX5_firstFault 2 (some .int) rm_X5_firstFault D (kTY cI cC cZ) [.ref a_T] (WD1 cI cC cZ a_T a_T_letters T_length T_letters) sz (kQI D (kTY cI cC cZ) (va_A (WD1 cI cC cZ a_T a_T_letters T_length T_letters) sz) rr (WD1 cI cC cZ a_T a_T_letters T_length T_letters)) := by
  refine kEnter (lv := [(0, .ref a_T)]) (own := RX5) (by decide) rfl (Nat.le_of_ble_eq_true rfl) rfl ?_
  intro p e s m below meth c hsz C0 hP hD hS ls hl
  generalize (va_A (WD1 cI cC cZ a_T a_T_letters T_length T_letters) sz) = A at C0 hD hS ⊢
  clear hsz hS
  obtain ⟨H, hHs⟩ : ∃ H : Heap, H = s.heap := ⟨_, rfl⟩
  have hS : va_S A s.heap H [] := by rw [hHs]; exact va_S.rf
  rw [← hHs] at hP ⊢
  obtain ⟨hx, hb, hr, hml, hown, hts, hK, hN, hA, hlocks, hF⟩ := id C0
  have h := hf
  unfold f_X5_firstFault at h
  refine lv_iconst (v := (0 : Int32)) hx hb dX5_firstFault_0 (by decide) ?_
  refine lv_istore_n (lv' := [(1, .int (0 : Int32)), (0, .ref a_T)]) hx hb dX5_firstFault_1 rfl hl (by decide) rfl (fun ls hl => ?_)
  exact wl_X5_firstFault_2 C0  _ _ h _ _ hP hD hS _ (lv_sub hl [1, 0] rfl)
abbrev WD2 (cI cC cZ : ClassId) (a_F a_F_table a_F_spots a_F_points a_F_walls a_F_across a_F_bareLight : Nat) (F_glow : Int32) (F_spotCount : Int32) (F_pointCount : Int32) (F_wallCount : Int32) (F_table : Nat → Int32) (F_spots : Nat → Int32) (F_points : Nat → Int32) (F_walls : Nat → Int32) (F_across : Nat → Int32) (F_bareLight : Nat → Int32) : va_W := [(a_F, .inr (1, [.ref a_F_table, .ref a_F_spots, .ref a_F_points, .ref a_F_walls, .ref a_F_across, .ref a_F_bareLight, .int F_glow, .int F_spotCount, .int F_pointCount, .int F_wallCount])), (a_F_table, .inl (cI, 10, .inl F_table)), (a_F_spots, .inl (cI, 32, .inl F_spots)), (a_F_points, .inl (cI, 24, .inl F_points)), (a_F_walls, .inl (cI, 20, .inl F_walls)), (a_F_across, .inl (cI, 48, .inl F_across)), (a_F_bareLight, .inl (cI, 48, .inl F_bareLight))]
abbrev rm_X1_hasSpot : Room := { frames := 0, cells := 0, slots := 0, locals := 0 }
noncomputable def f_X1_hasSpot (F_spotCount : Int32) (p1 : Int32) : Option (Int32) := if p1 < 0 then (some (0 : Int32)) else (if F_spotCount ≤ p1 then (some (0 : Int32)) else (some (1 : Int32)))
set_option maxHeartbeats 4000000 in
set_option maxRecDepth 100000 in
theorem c_X1_hasSpot (l : Launch) (D : va_G) (cI cC cZ : ClassId) (a_F a_F_table a_F_spots a_F_points a_F_walls a_F_across a_F_bareLight : Nat) (sz : Nat) (F_glow : Int32) (F_spotCount : Int32) (F_pointCount : Int32) (F_wallCount : Int32) (F_table : Nat → Int32) (F_spots : Nat → Int32) (F_points : Nat → Int32) (F_walls : Nat → Int32) (F_across : Nat → Int32) (F_bareLight : Nat → Int32) (p1 : Int32) (rr : Int32) (hf : f_X1_hasSpot F_spotCount p1 = some rr) : kMet l yX1_hasSpot cX1_hasSpot 2 (some .boolean) rm_X1_hasSpot D (kTY cI cC cZ) [.ref a_F, .int p1] (WD2 cI cC cZ a_F a_F_table a_F_spots a_F_points a_F_walls a_F_across a_F_bareLight F_glow F_spotCount F_pointCount F_wallCount F_table F_spots F_points F_walls F_across F_bareLight) sz (kQI D (kTY cI cC cZ) (va_A (WD2 cI cC cZ a_F a_F_table a_F_spots a_F_points a_F_walls a_F_across a_F_bareLight F_glow F_spotCount F_pointCount F_wallCount F_table F_spots F_points F_walls F_across F_bareLight) sz) rr (WD2 cI cC cZ a_F a_F_table a_F_spots a_F_points a_F_walls a_F_across a_F_bareLight F_glow F_spotCount F_pointCount F_wallCount F_table F_spots F_points F_walls F_across F_bareLight)) := by
  refine kEnter (lv := [(0, .ref a_F), (1, .int p1)]) (own := RX1) (by decide) rfl (Nat.le_of_ble_eq_true rfl) rfl ?_
  intro p e s m below meth c hsz C0 hP hD hS ls hl
  generalize (va_A (WD2 cI cC cZ a_F a_F_table a_F_spots a_F_points a_F_walls a_F_across a_F_bareLight F_glow F_spotCount F_pointCount F_wallCount F_table F_spots F_points F_walls F_across F_bareLight) sz) = A at C0 hD hS ⊢
  clear hsz hS
  obtain ⟨H, hHs⟩ : ∃ H : Heap, H = s.heap := ⟨_, rfl⟩
  have hS : va_S A s.heap H [] := by rw [hHs]; exact va_S.rf
  rw [← hHs] at hP ⊢
  obtain ⟨hx, hb, hr, hml, hown, hts, hK, hN, hA, hlocks, hF⟩ := id C0
  have h := hf
  unfold f_X1_hasSpot at h
  refine lv_iload_n hx hb dX1_hasSpot_0 rfl (lv_at hl 1 rfl) ?_
  refine lv_if_lt (tgt := 16) hx hb dX1_hasSpot_1 (by decide) (fun c1 => ?_) (fun c1 => ?_)
  · have h := oc_t c1 h
    refine lv_iconst (v := (0 : Int32)) hx hb dX1_hasSpot_16 (by decide) ?_
    cases h
    exact kret_i C0 hP hD hS (by decide) dX1_hasSpot_17
  · have h := oc_f c1 h
    refine lv_iload_n hx hb dX1_hasSpot_4 rfl (lv_at hl 1 rfl) ?_
    refine lv_aload_n hx hb dX1_hasSpot_5 rfl (lv_at hl 0 rfl) ?_
    refine va_get (D := D) (ci := 1) (v := .int F_spotCount) (C := RX1) (T := TX1) (N := 10) hx hb hts inlX1 hown hK hP 0 rfl rfl 7 (by decide) (hts _ kw_207) (fun _ h9 => h9) rfl dX1_hasSpot_6 ?_
    refine lv_icmp_ge (tgt := 16) hx hb dX1_hasSpot_9 (by decide) (fun c2 => ?_) (fun c2 => ?_)
    · have h := oc_t c2 h
      refine lv_iconst (v := (0 : Int32)) hx hb dX1_hasSpot_16 (by decide) ?_
      cases h
      exact kret_i C0 hP hD hS (by decide) dX1_hasSpot_17
    · have h := oc_f c2 h
      refine lv_iconst (v := (1 : Int32)) hx hb dX1_hasSpot_12 (by decide) ?_
      refine lv_goto (tgt := 17) hx hb dX1_hasSpot_13 (by decide) ?_
      cases h
      exact kret_i C0 hP hD hS (by decide) dX1_hasSpot_17
abbrev rm_X1_hasPoint : Room := { frames := 0, cells := 0, slots := 0, locals := 0 }
noncomputable def f_X1_hasPoint (F_pointCount : Int32) (p1 : Int32) : Option (Int32) := if p1 < 0 then (some (0 : Int32)) else (if F_pointCount ≤ p1 then (some (0 : Int32)) else (some (1 : Int32)))
set_option maxHeartbeats 4000000 in
set_option maxRecDepth 100000 in
theorem c_X1_hasPoint (l : Launch) (D : va_G) (cI cC cZ : ClassId) (a_F a_F_table a_F_spots a_F_points a_F_walls a_F_across a_F_bareLight : Nat) (sz : Nat) (F_glow : Int32) (F_spotCount : Int32) (F_pointCount : Int32) (F_wallCount : Int32) (F_table : Nat → Int32) (F_spots : Nat → Int32) (F_points : Nat → Int32) (F_walls : Nat → Int32) (F_across : Nat → Int32) (F_bareLight : Nat → Int32) (p1 : Int32) (rr : Int32) (hf : f_X1_hasPoint F_pointCount p1 = some rr) : kMet l yX1_hasPoint cX1_hasPoint 2 (some .boolean) rm_X1_hasPoint D (kTY cI cC cZ) [.ref a_F, .int p1] (WD2 cI cC cZ a_F a_F_table a_F_spots a_F_points a_F_walls a_F_across a_F_bareLight F_glow F_spotCount F_pointCount F_wallCount F_table F_spots F_points F_walls F_across F_bareLight) sz (kQI D (kTY cI cC cZ) (va_A (WD2 cI cC cZ a_F a_F_table a_F_spots a_F_points a_F_walls a_F_across a_F_bareLight F_glow F_spotCount F_pointCount F_wallCount F_table F_spots F_points F_walls F_across F_bareLight) sz) rr (WD2 cI cC cZ a_F a_F_table a_F_spots a_F_points a_F_walls a_F_across a_F_bareLight F_glow F_spotCount F_pointCount F_wallCount F_table F_spots F_points F_walls F_across F_bareLight)) := by
  refine kEnter (lv := [(0, .ref a_F), (1, .int p1)]) (own := RX1) (by decide) rfl (Nat.le_of_ble_eq_true rfl) rfl ?_
  intro p e s m below meth c hsz C0 hP hD hS ls hl
  generalize (va_A (WD2 cI cC cZ a_F a_F_table a_F_spots a_F_points a_F_walls a_F_across a_F_bareLight F_glow F_spotCount F_pointCount F_wallCount F_table F_spots F_points F_walls F_across F_bareLight) sz) = A at C0 hD hS ⊢
  clear hsz hS
  obtain ⟨H, hHs⟩ : ∃ H : Heap, H = s.heap := ⟨_, rfl⟩
  have hS : va_S A s.heap H [] := by rw [hHs]; exact va_S.rf
  rw [← hHs] at hP ⊢
  obtain ⟨hx, hb, hr, hml, hown, hts, hK, hN, hA, hlocks, hF⟩ := id C0
  have h := hf
  unfold f_X1_hasPoint at h
  refine lv_iload_n hx hb dX1_hasPoint_0 rfl (lv_at hl 1 rfl) ?_
  refine lv_if_lt (tgt := 16) hx hb dX1_hasPoint_1 (by decide) (fun c1 => ?_) (fun c1 => ?_)
  · have h := oc_t c1 h
    refine lv_iconst (v := (0 : Int32)) hx hb dX1_hasPoint_16 (by decide) ?_
    cases h
    exact kret_i C0 hP hD hS (by decide) dX1_hasPoint_17
  · have h := oc_f c1 h
    refine lv_iload_n hx hb dX1_hasPoint_4 rfl (lv_at hl 1 rfl) ?_
    refine lv_aload_n hx hb dX1_hasPoint_5 rfl (lv_at hl 0 rfl) ?_
    refine va_get (D := D) (ci := 1) (v := .int F_pointCount) (C := RX1) (T := TX1) (N := 10) hx hb hts inlX1 hown hK hP 0 rfl rfl 8 (by decide) (hts _ kw_208) (fun _ h9 => h9) rfl dX1_hasPoint_6 ?_
    refine lv_icmp_ge (tgt := 16) hx hb dX1_hasPoint_9 (by decide) (fun c2 => ?_) (fun c2 => ?_)
    · have h := oc_t c2 h
      refine lv_iconst (v := (0 : Int32)) hx hb dX1_hasPoint_16 (by decide) ?_
      cases h
      exact kret_i C0 hP hD hS (by decide) dX1_hasPoint_17
    · have h := oc_f c2 h
      refine lv_iconst (v := (1 : Int32)) hx hb dX1_hasPoint_12 (by decide) ?_
      refine lv_goto (tgt := 17) hx hb dX1_hasPoint_13 (by decide) ?_
      cases h
      exact kret_i C0 hP hD hS (by decide) dX1_hasPoint_17
abbrev rm_X1_hasWall : Room := { frames := 0, cells := 0, slots := 0, locals := 0 }
noncomputable def f_X1_hasWall (F_wallCount : Int32) (p1 : Int32) : Option (Int32) := if p1 < 0 then (some (0 : Int32)) else (if F_wallCount ≤ p1 then (some (0 : Int32)) else (some (1 : Int32)))
set_option maxHeartbeats 4000000 in
set_option maxRecDepth 100000 in
theorem c_X1_hasWall (l : Launch) (D : va_G) (cI cC cZ : ClassId) (a_F a_F_table a_F_spots a_F_points a_F_walls a_F_across a_F_bareLight : Nat) (sz : Nat) (F_glow : Int32) (F_spotCount : Int32) (F_pointCount : Int32) (F_wallCount : Int32) (F_table : Nat → Int32) (F_spots : Nat → Int32) (F_points : Nat → Int32) (F_walls : Nat → Int32) (F_across : Nat → Int32) (F_bareLight : Nat → Int32) (p1 : Int32) (rr : Int32) (hf : f_X1_hasWall F_wallCount p1 = some rr) : kMet l yX1_hasWall cX1_hasWall 2 (some .boolean) rm_X1_hasWall D (kTY cI cC cZ) [.ref a_F, .int p1] (WD2 cI cC cZ a_F a_F_table a_F_spots a_F_points a_F_walls a_F_across a_F_bareLight F_glow F_spotCount F_pointCount F_wallCount F_table F_spots F_points F_walls F_across F_bareLight) sz (kQI D (kTY cI cC cZ) (va_A (WD2 cI cC cZ a_F a_F_table a_F_spots a_F_points a_F_walls a_F_across a_F_bareLight F_glow F_spotCount F_pointCount F_wallCount F_table F_spots F_points F_walls F_across F_bareLight) sz) rr (WD2 cI cC cZ a_F a_F_table a_F_spots a_F_points a_F_walls a_F_across a_F_bareLight F_glow F_spotCount F_pointCount F_wallCount F_table F_spots F_points F_walls F_across F_bareLight)) := by
  refine kEnter (lv := [(0, .ref a_F), (1, .int p1)]) (own := RX1) (by decide) rfl (Nat.le_of_ble_eq_true rfl) rfl ?_
  intro p e s m below meth c hsz C0 hP hD hS ls hl
  generalize (va_A (WD2 cI cC cZ a_F a_F_table a_F_spots a_F_points a_F_walls a_F_across a_F_bareLight F_glow F_spotCount F_pointCount F_wallCount F_table F_spots F_points F_walls F_across F_bareLight) sz) = A at C0 hD hS ⊢
  clear hsz hS
  obtain ⟨H, hHs⟩ : ∃ H : Heap, H = s.heap := ⟨_, rfl⟩
  have hS : va_S A s.heap H [] := by rw [hHs]; exact va_S.rf
  rw [← hHs] at hP ⊢
  obtain ⟨hx, hb, hr, hml, hown, hts, hK, hN, hA, hlocks, hF⟩ := id C0
  have h := hf
  unfold f_X1_hasWall at h
  refine lv_iload_n hx hb dX1_hasWall_0 rfl (lv_at hl 1 rfl) ?_
  refine lv_if_lt (tgt := 16) hx hb dX1_hasWall_1 (by decide) (fun c1 => ?_) (fun c1 => ?_)
  · have h := oc_t c1 h
    refine lv_iconst (v := (0 : Int32)) hx hb dX1_hasWall_16 (by decide) ?_
    cases h
    exact kret_i C0 hP hD hS (by decide) dX1_hasWall_17
  · have h := oc_f c1 h
    refine lv_iload_n hx hb dX1_hasWall_4 rfl (lv_at hl 1 rfl) ?_
    refine lv_aload_n hx hb dX1_hasWall_5 rfl (lv_at hl 0 rfl) ?_
    refine va_get (D := D) (ci := 1) (v := .int F_wallCount) (C := RX1) (T := TX1) (N := 10) hx hb hts inlX1 hown hK hP 0 rfl rfl 9 (by decide) (hts _ kw_209) (fun _ h9 => h9) rfl dX1_hasWall_6 ?_
    refine lv_icmp_ge (tgt := 16) hx hb dX1_hasWall_9 (by decide) (fun c2 => ?_) (fun c2 => ?_)
    · have h := oc_t c2 h
      refine lv_iconst (v := (0 : Int32)) hx hb dX1_hasWall_16 (by decide) ?_
      cases h
      exact kret_i C0 hP hD hS (by decide) dX1_hasWall_17
    · have h := oc_f c2 h
      refine lv_iconst (v := (1 : Int32)) hx hb dX1_hasWall_12 (by decide) ?_
      refine lv_goto (tgt := 17) hx hb dX1_hasWall_13 (by decide) ?_
      cases h
      exact kret_i C0 hP hD hS (by decide) dX1_hasWall_17
abbrev WD3 (cI cC cZ : ClassId) (a_B : Nat) (nB : Nat) (B : Nat → Int32) : va_W := [(a_B, .inl (cI, nB, .inl B))]
abbrev rm_X1_figureOf : Room := { frames := 0, cells := 0, slots := 0, locals := 0 }
noncomputable def f_X1_figureOf (nB : Nat) (B : Nat → Int32) (p1 : Int32) (p2 : Int32) : Option (Int32) := nm_ ((p1 * (4 : Int32)) + p2) (fun t1 => if t1 < 0 then (some (0 : Int32)) else (if t1 < (Int32.ofNat nB) then (if (t1 < 0 ∨ nB ≤ Int32.toNatClampNeg t1) then none else (some (B (Int32.toNatClampNeg t1)))) else (some (0 : Int32))))
set_option maxHeartbeats 4000000 in
set_option maxRecDepth 100000 in
theorem c_X1_figureOf (l : Launch) (D : va_G) (cI cC cZ : ClassId) (a_B : Nat) (nB : Nat) (sz : Nat) (B : Nat → Int32) (p1 : Int32) (p2 : Int32) (rr : Int32) (hf : f_X1_figureOf nB B p1 p2 = some rr) : kMet l yX1_figureOf cX1_figureOf 4 (some .int) rm_X1_figureOf D (kTY cI cC cZ) [.ref a_B, .int p1, .int p2] (WD3 cI cC cZ a_B nB B) sz (kQI D (kTY cI cC cZ) (va_A (WD3 cI cC cZ a_B nB B) sz) rr (WD3 cI cC cZ a_B nB B)) := by
  refine kEnter (lv := [(0, .ref a_B), (1, .int p1), (2, .int p2)]) (own := RX1) (by decide) rfl (Nat.le_of_ble_eq_true rfl) rfl ?_
  intro p e s m below meth c hsz C0 hP hD hS ls hl
  generalize (va_A (WD3 cI cC cZ a_B nB B) sz) = A at C0 hD hS ⊢
  clear hsz hS
  obtain ⟨H, hHs⟩ : ∃ H : Heap, H = s.heap := ⟨_, rfl⟩
  have hS : va_S A s.heap H [] := by rw [hHs]; exact va_S.rf
  rw [← hHs] at hP ⊢
  obtain ⟨hx, hb, hr, hml, hown, hts, hK, hN, hA, hlocks, hF⟩ := id C0
  have h := hf
  unfold f_X1_figureOf at h
  refine lv_iload_n hx hb dX1_figureOf_0 rfl (lv_at hl 1 rfl) ?_
  refine lv_iconst (v := (4 : Int32)) hx hb dX1_figureOf_1 (by decide) ?_
  refine lv_imul hx hb dX1_figureOf_2 ?_
  refine lv_iload_n hx hb dX1_figureOf_3 rfl (lv_at hl 2 rfl) ?_
  refine lv_iadd hx hb dX1_figureOf_4 ?_
  refine lv_topi (fun t1 e_t1 => ?_)
  have h := oc_nm e_t1 h
  refine lv_istore_n (lv' := [(3, .int t1), (0, .ref a_B), (1, .int p1), (2, .int p2)]) hx hb dX1_figureOf_5 rfl hl (by decide) rfl (fun ls hl => ?_)
  refine lv_iload_n hx hb dX1_figureOf_6 rfl (lv_at hl 0 rfl) ?_
  refine lv_if_lt (tgt := 16) hx hb dX1_figureOf_7 (by decide) (fun c2 => ?_) (fun c2 => ?_)
  · have h := oc_t c2 h
    refine lv_iconst (v := (0 : Int32)) hx hb dX1_figureOf_16 (by decide) ?_
    refine lv_goto (tgt := 23) hx hb dX1_figureOf_17 (by decide) ?_
    cases h
    exact kret_i C0 hP hD hS rfl dX1_figureOf_23
  · have h := oc_f c2 h
    refine lv_iload_n hx hb dX1_figureOf_10 rfl (lv_at hl 0 rfl) ?_
    refine lv_aload_n hx hb dX1_figureOf_11 rfl (lv_at hl 1 rfl) ?_
    refine va_alen hx hb hK hP 0 0 rfl rfl (v := Int32.ofNat nB) rfl dX1_figureOf_12 ?_
    refine lv_icmp_lt (tgt := 20) hx hb dX1_figureOf_13 (by decide) (fun c3 => ?_) (fun c3 => ?_)
    · have h := oc_t c3 h
      refine lv_aload_n hx hb dX1_figureOf_20 rfl (lv_at hl 1 rfl) ?_
      refine lv_iload_n hx hb dX1_figureOf_21 rfl (lv_at hl 0 rfl) ?_
      obtain ⟨hb4, h⟩ := oc_else h
      refine va_iald hx hb hK hP 0 0 rfl rfl hb4 dX1_figureOf_22 ?_
      cases h
      exact kret_i C0 hP hD hS rfl dX1_figureOf_23
    · have h := oc_f c3 h
      refine lv_iconst (v := (0 : Int32)) hx hb dX1_figureOf_16 (by decide) ?_
      refine lv_goto (tgt := 23) hx hb dX1_figureOf_17 (by decide) ?_
      cases h
      exact kret_i C0 hP hD hS rfl dX1_figureOf_23
abbrev rm_X1_spotFigure : Room := { frames := 1, cells := 0, slots := 0, locals := 23 }
noncomputable def f_X1_spotFigure (F_spots : Nat → Int32) (p1 : Int32) (p2 : Int32) : Option (Int32) := (f_X1_figureOf 32 F_spots p1 p2).bind (fun r2 => some r2)
set_option maxHeartbeats 4000000 in
set_option maxRecDepth 100000 in
theorem c_X1_spotFigure (l : Launch) (D : va_G) (cI cC cZ : ClassId) (a_F a_F_table a_F_spots a_F_points a_F_walls a_F_across a_F_bareLight : Nat) (sz : Nat) (F_glow : Int32) (F_spotCount : Int32) (F_pointCount : Int32) (F_wallCount : Int32) (F_table : Nat → Int32) (F_spots : Nat → Int32) (F_points : Nat → Int32) (F_walls : Nat → Int32) (F_across : Nat → Int32) (F_bareLight : Nat → Int32) (p1 : Int32) (p2 : Int32) (rr : Int32) (hf : f_X1_spotFigure F_spots p1 p2 = some rr) : kMet l yX1_spotFigure cX1_spotFigure 3 (some .int) rm_X1_spotFigure D (kTY cI cC cZ) [.ref a_F, .int p1, .int p2] (WD2 cI cC cZ a_F a_F_table a_F_spots a_F_points a_F_walls a_F_across a_F_bareLight F_glow F_spotCount F_pointCount F_wallCount F_table F_spots F_points F_walls F_across F_bareLight) sz (kQI D (kTY cI cC cZ) (va_A (WD2 cI cC cZ a_F a_F_table a_F_spots a_F_points a_F_walls a_F_across a_F_bareLight F_glow F_spotCount F_pointCount F_wallCount F_table F_spots F_points F_walls F_across F_bareLight) sz) rr (WD2 cI cC cZ a_F a_F_table a_F_spots a_F_points a_F_walls a_F_across a_F_bareLight F_glow F_spotCount F_pointCount F_wallCount F_table F_spots F_points F_walls F_across F_bareLight)) := by
  refine kEnter (lv := [(0, .ref a_F), (1, .int p1), (2, .int p2)]) (own := RX1) (by decide) rfl (Nat.le_of_ble_eq_true rfl) rfl ?_
  intro p e s m below meth c hsz C0 hP hD hS ls hl
  generalize (va_A (WD2 cI cC cZ a_F a_F_table a_F_spots a_F_points a_F_walls a_F_across a_F_bareLight F_glow F_spotCount F_pointCount F_wallCount F_table F_spots F_points F_walls F_across F_bareLight) sz) = A at C0 hD hS ⊢
  clear hsz hS
  obtain ⟨H, hHs⟩ : ∃ H : Heap, H = s.heap := ⟨_, rfl⟩
  have hS : va_S A s.heap H [] := by rw [hHs]; exact va_S.rf
  rw [← hHs] at hP ⊢
  obtain ⟨hx, hb, hr, hml, hown, hts, hK, hN, hA, hlocks, hF⟩ := id C0
  have h := hf
  unfold f_X1_spotFigure at h
  refine lv_aload_n hx hb dX1_spotFigure_0 rfl (lv_at hl 0 rfl) ?_
  refine va_get (D := D) (ci := 1) (v := .ref a_F_spots) (C := RX1) (T := TX1) (N := 10) hx hb hts inlX1 hown hK hP 0 rfl rfl 1 (by decide) (hts _ kw_51) (fun _ h9 => h9) rfl dX1_spotFigure_1 ?_
  refine lv_iload_n hx hb dX1_spotFigure_4 rfl (lv_at hl 1 rfl) ?_
  refine lv_iload_n hx hb dX1_spotFigure_5 rfl (lv_at hl 2 rfl) ?_
  obtain ⟨r2, hc1, h⟩ := oc_bind h
  refine kro_i (wc := (WD3 cI cC cZ a_F_spots 32 F_spots)) C0 hP hD hS [2] rfl (kS (n := 3) (As := [.ref a_F_spots, .int p1, .int p2]) (rest := []) (wc := (WD3 cI cC cZ a_F_spots 32 F_spots)) C0 hP hD hS [2] rfl (by decide) (c_X1_figureOf l D cI cC cZ a_F_spots 32 H.size F_spots p1 p2 r2 hc1) kw_227 kw_225 kw_226 kw_19 (by decide +kernel) (by decide) rfl hl.1 rfl (Nat.le_of_ble_eq_true rfl) ⟨Nat.zero_le _, Nat.zero_le _⟩ dX1_spotFigure_6) (fun H locs hP hS => ?_)
  cases h
  exact kret_i C0 hP hD hS rfl dX1_spotFigure_9
abbrev rm_X1_pointFigure : Room := { frames := 1, cells := 0, slots := 0, locals := 23 }
noncomputable def f_X1_pointFigure (F_points : Nat → Int32) (p1 : Int32) (p2 : Int32) : Option (Int32) := (f_X1_figureOf 24 F_points p1 p2).bind (fun r2 => some r2)
set_option maxHeartbeats 4000000 in
set_option maxRecDepth 100000 in
theorem c_X1_pointFigure (l : Launch) (D : va_G) (cI cC cZ : ClassId) (a_F a_F_table a_F_spots a_F_points a_F_walls a_F_across a_F_bareLight : Nat) (sz : Nat) (F_glow : Int32) (F_spotCount : Int32) (F_pointCount : Int32) (F_wallCount : Int32) (F_table : Nat → Int32) (F_spots : Nat → Int32) (F_points : Nat → Int32) (F_walls : Nat → Int32) (F_across : Nat → Int32) (F_bareLight : Nat → Int32) (p1 : Int32) (p2 : Int32) (rr : Int32) (hf : f_X1_pointFigure F_points p1 p2 = some rr) : kMet l yX1_pointFigure cX1_pointFigure 3 (some .int) rm_X1_pointFigure D (kTY cI cC cZ) [.ref a_F, .int p1, .int p2] (WD2 cI cC cZ a_F a_F_table a_F_spots a_F_points a_F_walls a_F_across a_F_bareLight F_glow F_spotCount F_pointCount F_wallCount F_table F_spots F_points F_walls F_across F_bareLight) sz (kQI D (kTY cI cC cZ) (va_A (WD2 cI cC cZ a_F a_F_table a_F_spots a_F_points a_F_walls a_F_across a_F_bareLight F_glow F_spotCount F_pointCount F_wallCount F_table F_spots F_points F_walls F_across F_bareLight) sz) rr (WD2 cI cC cZ a_F a_F_table a_F_spots a_F_points a_F_walls a_F_across a_F_bareLight F_glow F_spotCount F_pointCount F_wallCount F_table F_spots F_points F_walls F_across F_bareLight)) := by
  refine kEnter (lv := [(0, .ref a_F), (1, .int p1), (2, .int p2)]) (own := RX1) (by decide) rfl (Nat.le_of_ble_eq_true rfl) rfl ?_
  intro p e s m below meth c hsz C0 hP hD hS ls hl
  generalize (va_A (WD2 cI cC cZ a_F a_F_table a_F_spots a_F_points a_F_walls a_F_across a_F_bareLight F_glow F_spotCount F_pointCount F_wallCount F_table F_spots F_points F_walls F_across F_bareLight) sz) = A at C0 hD hS ⊢
  clear hsz hS
  obtain ⟨H, hHs⟩ : ∃ H : Heap, H = s.heap := ⟨_, rfl⟩
  have hS : va_S A s.heap H [] := by rw [hHs]; exact va_S.rf
  rw [← hHs] at hP ⊢
  obtain ⟨hx, hb, hr, hml, hown, hts, hK, hN, hA, hlocks, hF⟩ := id C0
  have h := hf
  unfold f_X1_pointFigure at h
  refine lv_aload_n hx hb dX1_pointFigure_0 rfl (lv_at hl 0 rfl) ?_
  refine va_get (D := D) (ci := 1) (v := .ref a_F_points) (C := RX1) (T := TX1) (N := 10) hx hb hts inlX1 hown hK hP 0 rfl rfl 2 (by decide) (hts _ kw_52) (fun _ h9 => h9) rfl dX1_pointFigure_1 ?_
  refine lv_iload_n hx hb dX1_pointFigure_4 rfl (lv_at hl 1 rfl) ?_
  refine lv_iload_n hx hb dX1_pointFigure_5 rfl (lv_at hl 2 rfl) ?_
  obtain ⟨r2, hc1, h⟩ := oc_bind h
  refine kro_i (wc := (WD3 cI cC cZ a_F_points 24 F_points)) C0 hP hD hS [3] rfl (kS (n := 3) (As := [.ref a_F_points, .int p1, .int p2]) (rest := []) (wc := (WD3 cI cC cZ a_F_points 24 F_points)) C0 hP hD hS [3] rfl (by decide) (c_X1_figureOf l D cI cC cZ a_F_points 24 H.size F_points p1 p2 r2 hc1) kw_227 kw_225 kw_226 kw_19 (by decide +kernel) (by decide) rfl hl.1 rfl (Nat.le_of_ble_eq_true rfl) ⟨Nat.zero_le _, Nat.zero_le _⟩ dX1_pointFigure_6) (fun H locs hP hS => ?_)
  cases h
  exact kret_i C0 hP hD hS rfl dX1_pointFigure_9
abbrev rm_X1_wallFigure : Room := { frames := 1, cells := 0, slots := 0, locals := 23 }
noncomputable def f_X1_wallFigure (F_walls : Nat → Int32) (p1 : Int32) (p2 : Int32) : Option (Int32) := (f_X1_figureOf 20 F_walls p1 p2).bind (fun r2 => some r2)
set_option maxHeartbeats 4000000 in
set_option maxRecDepth 100000 in
theorem c_X1_wallFigure (l : Launch) (D : va_G) (cI cC cZ : ClassId) (a_F a_F_table a_F_spots a_F_points a_F_walls a_F_across a_F_bareLight : Nat) (sz : Nat) (F_glow : Int32) (F_spotCount : Int32) (F_pointCount : Int32) (F_wallCount : Int32) (F_table : Nat → Int32) (F_spots : Nat → Int32) (F_points : Nat → Int32) (F_walls : Nat → Int32) (F_across : Nat → Int32) (F_bareLight : Nat → Int32) (p1 : Int32) (p2 : Int32) (rr : Int32) (hf : f_X1_wallFigure F_walls p1 p2 = some rr) : kMet l yX1_wallFigure cX1_wallFigure 3 (some .int) rm_X1_wallFigure D (kTY cI cC cZ) [.ref a_F, .int p1, .int p2] (WD2 cI cC cZ a_F a_F_table a_F_spots a_F_points a_F_walls a_F_across a_F_bareLight F_glow F_spotCount F_pointCount F_wallCount F_table F_spots F_points F_walls F_across F_bareLight) sz (kQI D (kTY cI cC cZ) (va_A (WD2 cI cC cZ a_F a_F_table a_F_spots a_F_points a_F_walls a_F_across a_F_bareLight F_glow F_spotCount F_pointCount F_wallCount F_table F_spots F_points F_walls F_across F_bareLight) sz) rr (WD2 cI cC cZ a_F a_F_table a_F_spots a_F_points a_F_walls a_F_across a_F_bareLight F_glow F_spotCount F_pointCount F_wallCount F_table F_spots F_points F_walls F_across F_bareLight)) := by
  refine kEnter (lv := [(0, .ref a_F), (1, .int p1), (2, .int p2)]) (own := RX1) (by decide) rfl (Nat.le_of_ble_eq_true rfl) rfl ?_
  intro p e s m below meth c hsz C0 hP hD hS ls hl
  generalize (va_A (WD2 cI cC cZ a_F a_F_table a_F_spots a_F_points a_F_walls a_F_across a_F_bareLight F_glow F_spotCount F_pointCount F_wallCount F_table F_spots F_points F_walls F_across F_bareLight) sz) = A at C0 hD hS ⊢
  clear hsz hS
  obtain ⟨H, hHs⟩ : ∃ H : Heap, H = s.heap := ⟨_, rfl⟩
  have hS : va_S A s.heap H [] := by rw [hHs]; exact va_S.rf
  rw [← hHs] at hP ⊢
  obtain ⟨hx, hb, hr, hml, hown, hts, hK, hN, hA, hlocks, hF⟩ := id C0
  have h := hf
  unfold f_X1_wallFigure at h
  refine lv_aload_n hx hb dX1_wallFigure_0 rfl (lv_at hl 0 rfl) ?_
  refine va_get (D := D) (ci := 1) (v := .ref a_F_walls) (C := RX1) (T := TX1) (N := 10) hx hb hts inlX1 hown hK hP 0 rfl rfl 3 (by decide) (hts _ kw_53) (fun _ h9 => h9) rfl dX1_wallFigure_1 ?_
  refine lv_iload_n hx hb dX1_wallFigure_4 rfl (lv_at hl 1 rfl) ?_
  refine lv_iload_n hx hb dX1_wallFigure_5 rfl (lv_at hl 2 rfl) ?_
  obtain ⟨r2, hc1, h⟩ := oc_bind h
  refine kro_i (wc := (WD3 cI cC cZ a_F_walls 20 F_walls)) C0 hP hD hS [4] rfl (kS (n := 3) (As := [.ref a_F_walls, .int p1, .int p2]) (rest := []) (wc := (WD3 cI cC cZ a_F_walls 20 F_walls)) C0 hP hD hS [4] rfl (by decide) (c_X1_figureOf l D cI cC cZ a_F_walls 20 H.size F_walls p1 p2 r2 hc1) kw_227 kw_225 kw_226 kw_19 (by decide +kernel) (by decide) rfl hl.1 rfl (Nat.le_of_ble_eq_true rfl) ⟨Nat.zero_le _, Nat.zero_le _⟩ dX1_wallFigure_6) (fun H locs hP hS => ?_)
  cases h
  exact kret_i C0 hP hD hS rfl dX1_wallFigure_9
abbrev rm_X1_firstWant : Room := { frames := 2, cells := 0, slots := 0, locals := 45 }
noncomputable def f_X1_firstWant (F_points : Nat → Int32) (p1 : Int32) : Option (Int32) := (f_X1_pointFigure F_points p1 (2 : Int32)).bind (fun r2 => (f_X1_pointFigure F_points p1 (3 : Int32)).bind (fun r4 => some ((r2 * (10 : Int32)) + r4)))
set_option maxHeartbeats 4000000 in
set_option maxRecDepth 100000 in
theorem c_X1_firstWant (l : Launch) (D : va_G) (cI cC cZ : ClassId) (a_F a_F_table a_F_spots a_F_points a_F_walls a_F_across a_F_bareLight : Nat) (sz : Nat) (F_glow : Int32) (F_spotCount : Int32) (F_pointCount : Int32) (F_wallCount : Int32) (F_table : Nat → Int32) (F_spots : Nat → Int32) (F_points : Nat → Int32) (F_walls : Nat → Int32) (F_across : Nat → Int32) (F_bareLight : Nat → Int32) (p1 : Int32) (rr : Int32) (hf : f_X1_firstWant F_points p1 = some rr) : kMet l yX1_firstWant cX1_firstWant 2 (some .int) rm_X1_firstWant D (kTY cI cC cZ) [.ref a_F, .int p1] (WD2 cI cC cZ a_F a_F_table a_F_spots a_F_points a_F_walls a_F_across a_F_bareLight F_glow F_spotCount F_pointCount F_wallCount F_table F_spots F_points F_walls F_across F_bareLight) sz (kQI D (kTY cI cC cZ) (va_A (WD2 cI cC cZ a_F a_F_table a_F_spots a_F_points a_F_walls a_F_across a_F_bareLight F_glow F_spotCount F_pointCount F_wallCount F_table F_spots F_points F_walls F_across F_bareLight) sz) rr (WD2 cI cC cZ a_F a_F_table a_F_spots a_F_points a_F_walls a_F_across a_F_bareLight F_glow F_spotCount F_pointCount F_wallCount F_table F_spots F_points F_walls F_across F_bareLight)) := by
  refine kEnter (lv := [(0, .ref a_F), (1, .int p1)]) (own := RX1) (by decide) rfl (Nat.le_of_ble_eq_true rfl) rfl ?_
  intro p e s m below meth c hsz C0 hP hD hS ls hl
  generalize (va_A (WD2 cI cC cZ a_F a_F_table a_F_spots a_F_points a_F_walls a_F_across a_F_bareLight F_glow F_spotCount F_pointCount F_wallCount F_table F_spots F_points F_walls F_across F_bareLight) sz) = A at C0 hD hS ⊢
  clear hsz hS
  obtain ⟨H, hHs⟩ : ∃ H : Heap, H = s.heap := ⟨_, rfl⟩
  have hS : va_S A s.heap H [] := by rw [hHs]; exact va_S.rf
  rw [← hHs] at hP ⊢
  obtain ⟨hx, hb, hr, hml, hown, hts, hK, hN, hA, hlocks, hF⟩ := id C0
  have h := hf
  unfold f_X1_firstWant at h
  refine lv_aload_n hx hb dX1_firstWant_0 rfl (lv_at hl 0 rfl) ?_
  refine lv_iload_n hx hb dX1_firstWant_1 rfl (lv_at hl 1 rfl) ?_
  refine lv_iconst (v := (2 : Int32)) hx hb dX1_firstWant_2 (by decide) ?_
  obtain ⟨r2, hc1, h⟩ := oc_bind h
  refine kro_i (wc := (WD2 cI cC cZ a_F a_F_table a_F_spots a_F_points a_F_walls a_F_across a_F_bareLight F_glow F_spotCount F_pointCount F_wallCount F_table F_spots F_points F_walls F_across F_bareLight)) C0 hP hD hS [0, 1, 2, 3, 4, 5, 6] rfl (kV (n := 2) (As := [.int p1, .int (2 : Int32)]) (rest := []) (wc := (WD2 cI cC cZ a_F a_F_table a_F_spots a_F_points a_F_walls a_F_across a_F_bareLight F_glow F_spotCount F_pointCount F_wallCount F_table F_spots F_points F_walls F_across F_bareLight)) (C := RX1) C0 hP hD hS [0, 1, 2, 3, 4, 5, 6] rfl (by decide) (c_X1_pointFigure l D cI cC cZ a_F a_F_table a_F_spots a_F_points a_F_walls a_F_across a_F_bareLight H.size F_glow F_spotCount F_pointCount F_wallCount F_table F_spots F_points F_walls F_across F_bareLight p1 (2 : Int32) r2 hc1) kw_231 kw_228 kw_229 kw_230 kw_19 (by decide +kernel) (by decide) rfl rfl rfl hl.1 rfl (Nat.le_of_ble_eq_true rfl) ⟨Nat.zero_le _, Nat.zero_le _⟩ dX1_firstWant_3) (fun H locs hP hS => ?_)
  refine lv_bipush (v := (10 : Int32)) hx hb dX1_firstWant_6 (by decide) ?_
  refine lv_imul hx hb dX1_firstWant_8 ?_
  refine lv_aload_n hx hb dX1_firstWant_9 rfl (lv_at hl 0 rfl) ?_
  refine lv_iload_n hx hb dX1_firstWant_10 rfl (lv_at hl 1 rfl) ?_
  refine lv_iconst (v := (3 : Int32)) hx hb dX1_firstWant_11 (by decide) ?_
  obtain ⟨r4, hc3, h⟩ := oc_bind h
  refine kro_i (wc := (WD2 cI cC cZ a_F a_F_table a_F_spots a_F_points a_F_walls a_F_across a_F_bareLight F_glow F_spotCount F_pointCount F_wallCount F_table F_spots F_points F_walls F_across F_bareLight)) C0 hP hD hS [0, 1, 2, 3, 4, 5, 6] rfl (kV (n := 2) (As := [.int p1, .int (3 : Int32)]) (rest := [.int (r2 * (10 : Int32))]) (wc := (WD2 cI cC cZ a_F a_F_table a_F_spots a_F_points a_F_walls a_F_across a_F_bareLight F_glow F_spotCount F_pointCount F_wallCount F_table F_spots F_points F_walls F_across F_bareLight)) (C := RX1) C0 hP hD hS [0, 1, 2, 3, 4, 5, 6] rfl (by decide) (c_X1_pointFigure l D cI cC cZ a_F a_F_table a_F_spots a_F_points a_F_walls a_F_across a_F_bareLight H.size F_glow F_spotCount F_pointCount F_wallCount F_table F_spots F_points F_walls F_across F_bareLight p1 (3 : Int32) r4 hc3) kw_231 kw_228 kw_229 kw_230 kw_19 (by decide +kernel) (by decide) rfl rfl rfl hl.1 rfl (Nat.le_of_ble_eq_true rfl) ⟨Nat.zero_le _, Nat.zero_le _⟩ dX1_firstWant_12) (fun H locs hP hS => ?_)
  refine lv_iadd hx hb dX1_firstWant_15 ?_
  cases h
  exact kret_i C0 hP hD hS rfl dX1_firstWant_16
