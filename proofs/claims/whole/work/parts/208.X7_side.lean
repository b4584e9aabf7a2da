abbrev rm_X7_side : Room := { frames := 0, cells := 0, slots := 0, locals := 0 }
noncomputable def f_X7_side  (p0 : Int32) (p1 : Int32) (p2 : Int32) (p3 : Int32) (p4 : Int32) (p5 : Int32) : Option (Int32) := nm_ (((p2 - p0) * (p5 - p1)) - ((p3 - p1) * (p4 - p0))) (fun t1 => if t1 ≤ 0 then (if 0 ≤ t1 then (some (0 : Int32)) else (some (-1 : Int32))) else (some (1 : Int32)))
set_option maxHeartbeats 4000000 in
set_option maxRecDepth 100000 in
theorem c_X7_side (l : Launch) (D : va_G) (cI cC cZ : ClassId) (sz : Nat) (p0 : Int32) (p1 : Int32) (p2 : Int32) (p3 : Int32) (p4 : Int32) (p5 : Int32) (rr : Int32) (hf : f_X7_side p0 p1 p2 p3 p4 p5 = some rr) : kMet l yX7_side cX7_side 7 (some .int) rm_X7_side D (kTY cI cC cZ) [.int p0, .int p1, .int p2, .int p3, .int p4, .int p5] (WD0 cI cC cZ) sz (kQI D (kTY cI cC cZ) (va_A (WD0 cI cC cZ) sz) rr (WD0 cI cC cZ)) := by
  refine kEnter (lv := [(0, .int p0), (1, .int p1), (2, .int p2), (3, .int p3), (4, .int p4), (5, .int p5)]) (own := RX7) (by decide) rfl (Nat.le_of_ble_eq_true rfl) rfl ?_
  intro p e s m below meth c hsz C0 hP hD hS ls hl
  generalize (va_A (WD0 cI cC cZ) sz) = A at C0 hD hS ⊢
  clear hsz hS
  obtain ⟨H, hHs⟩ : ∃ H : Heap, H = s.heap := ⟨_, rfl⟩
  have hS : va_S A s.heap H [] := by rw [hHs]; exact va_S.rf
  rw [← hHs] at hP ⊢
  obtain ⟨hx, hb, hr, hml, hown, hts, hK, hN, hA, hlocks, hF⟩ := id C0
  have h := hf
  unfold f_X7_side at h
  refine lv_iload_n hx hb dX7_side_0 rfl (lv_at hl 2 rfl) ?_
  refine lv_iload_n hx hb dX7_side_1 rfl (lv_at hl 0 rfl) ?_
  refine lv_isub hx hb dX7_side_2 ?_
  refine lv_iload hx hb dX7_side_3 (lv_at hl 5 rfl) ?_
  refine lv_iload_n hx hb dX7_side_5 rfl (lv_at hl 1 rfl) ?_
  refine lv_isub hx hb dX7_side_6 ?_
  refine lv_imul hx hb dX7_side_7 ?_
  refine lv_iload_n hx hb dX7_side_8 rfl (lv_at hl 3 rfl) ?_
  refine lv_iload_n hx hb dX7_side_9 rfl (lv_at hl 1 rfl) ?_
  refine lv_isub hx hb dX7_side_10 ?_
  refine lv_iload hx hb dX7_side_11 (lv_at hl 4 rfl) ?_
  refine lv_iload_n hx hb dX7_side_13 rfl (lv_at hl 0 rfl) ?_
  refine lv_isub hx hb dX7_side_14 ?_
  refine lv_imul hx hb dX7_side_15 ?_
  refine lv_isub hx hb dX7_side_16 ?_
  refine lv_topi (fun t1 e_t1 => ?_)
  have h := oc_nm e_t1 h
  refine lv_istore (lv' := [(6, .int t1), (0, .int p0), (1, .int p1), (2, .int p2), (3, .int p3), (4, .int p4), (5, .int p5)]) hx hb dX7_side_17 hl (by decide) rfl (fun ls hl => ?_)
  refine lv_iload hx hb dX7_side_19 (lv_at hl 0 rfl) ?_
  refine lv_if_le (tgt := 28) hx hb dX7_side_21 (by decide) (fun c2 => ?_) (fun c2 => ?_)
  · have h := oc_t c2 h
    refine lv_iload hx hb dX7_side_28 (lv_at hl 0 rfl) ?_
    refine lv_if_ge (tgt := 37) hx hb dX7_side_30 (by decide) (fun c3 => ?_) (fun c3 => ?_)
    · have h := oc_t c3 h
      refine lv_iconst (v := (0 : Int32)) hx hb dX7_side_37 (by decide) ?_
      cases h
      exact kret_i C0 hP hD hS rfl dX7_side_38
    · have h := oc_f c3 h
      refine lv_iconst (v := (-1 : Int32)) hx hb dX7_side_33 (by decide) ?_
      refine lv_goto (tgt := 38) hx hb dX7_side_34 (by decide) ?_
      cases h
      exact kret_i C0 hP hD hS rfl dX7_side_38
  · have h := oc_f c2 h
    refine lv_iconst (v := (1 : Int32)) hx hb dX7_side_24 (by decide) ?_
    refine lv_goto (tgt := 38) hx hb dX7_side_25 (by decide) ?_
    cases h
    exact kret_i C0 hP hD hS rfl dX7_side_38
abbrev rm_X7_isBetween : Room := { frames := 1, cells := 0, slots := 0, locals := 25 }
noncomputable def f_X7_isBetween  (p0 : Int32) (p1 : Int32) (p2 : Int32) : Option (Int32) := if p1 ≤ p0 then ((f_X7_in (Int32.toInt64 p2) (Int32.toInt64 p1) (Int32.toInt64 p0)).bind (fun r3 => if r3 &&& 1 = r3 then (some r3) else none)) else ((f_X7_in (Int32.toInt64 p2) (Int32.toInt64 p0) (Int32.toInt64 p1)).bind (fun r6 => if r6 &&& 1 = r6 then (some r6) else none))
set_option maxHeartbeats 4000000 in
set_option maxRecDepth 100000 in
theorem c_X7_isBetween (l : Launch) (D : va_G) (cI cC cZ : ClassId) (sz : Nat) (p0 : Int32) (p1 : Int32) (p2 : Int32) (rr : Int32) (hf : f_X7_isBetween p0 p1 p2 = some rr) : kMet l yX7_isBetween cX7_isBetween 3 (some .boolean) rm_X7_isBetween D (kTY cI cC cZ) [.int p0, .int p1, .int p2] (WD0 cI cC cZ) sz (kQI D (kTY cI cC cZ) (va_A (WD0 cI cC cZ) sz) rr (WD0 cI cC cZ)) := by
  refine kEnter (lv := [(0, .int p0), (1, .int p1), (2, .int p2)]) (own := RX7) (by decide) rfl (Nat.le_of_ble_eq_true rfl) rfl ?_
  intro p e s m below meth c hsz C0 hP hD hS ls hl
  generalize (va_A (WD0 cI cC cZ) sz) = A at C0 hD hS ⊢
  clear hsz hS
  obtain ⟨H, hHs⟩ : ∃ H : Heap, H = s.heap := ⟨_, rfl⟩
  have hS : va_S A s.heap H [] := by rw [hHs]; exact va_S.rf
  rw [← hHs] at hP ⊢
  obtain ⟨hx, hb, hr, hml, hown, hts, hK, hN, hA, hlocks, hF⟩ := id C0
  have h := hf
  unfold f_X7_isBetween at h
  refine lv_iload_n hx hb dX7_isBetween_0 rfl (lv_at hl 0 rfl) ?_
  refine lv_iload_n hx hb dX7_isBetween_1 rfl (lv_at hl 1 rfl) ?_
  refine lv_icmp_ge (tgt := 17) hx hb dX7_isBetween_2 (by decide) (fun c1 => ?_) (fun c1 => ?_)
  · have h := oc_t c1 h
    refine lv_iload_n hx hb dX7_isBetween_17 rfl (lv_at hl 2 rfl) ?_
    refine lv_i2l hx hb dX7_isBetween_18 rfl ?_
    refine lv_iload_n hx hb dX7_isBetween_19 rfl (lv_at hl 1 rfl) ?_
    refine lv_i2l hx hb dX7_isBetween_20 rfl ?_
    refine lv_iload_n hx hb dX7_isBetween_21 rfl (lv_at hl 0 rfl) ?_
    refine lv_i2l hx hb dX7_isBetween_22 rfl ?_
    obtain ⟨r3, hc2, h⟩ := oc_bind h
    refine kro_i (wc := (WD0 cI cC cZ)) C0 hP hD hS [] rfl (kS (n := 3) (As := [.long (Int32.toInt64 p2), .long (Int32.toInt64 p1), .long (Int32.toInt64 p0)]) (rest := []) (wc := (WD0 cI cC cZ)) C0 hP hD hS [] rfl (by decide) (c_X7_in l D cI cC cZ  H.size  (Int32.toInt64 p2) (Int32.toInt64 p1) (Int32.toInt64 p0) r3 hc2) kw_114 kw_112 kw_113 kw_5 (by decide +kernel) (by decide) rfl hl.1 rfl (Nat.le_of_ble_eq_true rfl) ⟨Nat.zero_le _, Nat.zero_le _⟩ dX7_isBetween_23) (fun H locs hP hS => ?_)
    obtain ⟨hn4, h⟩ := oc_then h
    cases h
    exact kret_i C0 hP hD hS (kn_bool hn4) dX7_isBetween_26
  · have h := oc_f c1 h
    refine lv_iload_n hx hb dX7_isBetween_5 rfl (lv_at hl 2 rfl) ?_
    refine lv_i2l hx hb dX7_isBetween_6 rfl ?_
    refine lv_iload_n hx hb dX7_isBetween_7 rfl (lv_at hl 0 rfl) ?_
    refine lv_i2l hx hb dX7_isBetween_8 rfl ?_
    refine lv_iload_n hx hb dX7_isBetween_9 rfl (lv_at hl 1 rfl) ?_
    refine lv_i2l hx hb dX7_isBetween_10 rfl ?_
    obtain ⟨r6, hc5, h⟩ := oc_bind h
    refine kro_i (wc := (WD0 cI cC cZ)) C0 hP hD hS [] rfl (kS (n := 3) (As := [.long (Int32.toInt64 p2), .long (Int32.toInt64 p0), .long (Int32.toInt64 p1)]) (rest := []) (wc := (WD0 cI cC cZ)) C0 hP hD hS [] rfl (by decide) (c_X7_in l D cI cC cZ  H.size  (Int32.toInt64 p2) (Int32.toInt64 p0) (Int32.toInt64 p1) r6 hc5) kw_114 kw_112 kw_113 kw_5 (by decide +kernel) (by decide) rfl hl.1 rfl (Nat.le_of_ble_eq_true rfl) ⟨Nat.zero_le _, Nat.zero_le _⟩ dX7_isBetween_11) (fun H locs hP hS => ?_)
    refine lv_goto (tgt := 26) hx hb dX7_isBetween_14 (by decide) ?_
    obtain ⟨hn7, h⟩ := oc_then h
    cases h
    exact kret_i C0 hP hD hS (kn_bool hn7) dX7_isBetween_26
abbrev rm_X7_isOn : Room := { frames := 2, cells := 0, slots := 0, locals := 47 }
noncomputable def f_X7_isOn  (p0 : Int32) (p1 : Int32) (p2 : Int32) (p3 : Int32) (p4 : Int32) (p5 : Int32) : Option (Int32) := (f_X7_side p0 p1 p2 p3 p4 p5).bind (fun r2 => if r2 = 0 then ((f_X7_isBetween p0 p2 p4).bind (fun r5 => if r5 = 0 then (some (0 : Int32)) else ((f_X7_isBetween p1 p3 p5).bind (fun r8 => if r8 = 0 then (some (0 : Int32)) else (some (1 : Int32)))))) else (some (0 : Int32)))
set_option maxHeartbeats 4000000 in
set_option maxRecDepth 100000 in
theorem c_X7_isOn (l : Launch) (D : va_G) (cI cC cZ : ClassId) (sz : Nat) (p0 : Int32) (p1 : Int32) (p2 : Int32) (p3 : Int32) (p4 : Int32) (p5 : Int32) (rr : Int32) (hf : f_X7_isOn p0 p1 p2 p3 p4 p5 = some rr) : kMet l yX7_isOn cX7_isOn 6 (some .boolean) rm_X7_isOn D (kTY cI cC cZ) [.int p0, .int p1, .int p2, .int p3, .int p4, .int p5] (WD0 cI cC cZ) sz (kQI D (kTY cI cC cZ) (va_A (WD0 cI cC cZ) sz) rr (WD0 cI cC cZ)) := by
  refine kEnter (lv := [(0, .int p0), (1, .int p1), (2, .int p2), (3, .int p3), (4, .int p4), (5, .int p5)]) (own := RX7) (by decide) rfl (Nat.le_of_ble_eq_true rfl) rfl ?_
  intro p e s m below meth c hsz C0 hP hD hS ls hl
  generalize (va_A (WD0 cI cC cZ) sz) = A at C0 hD hS ⊢
  clear hsz hS
  obtain ⟨H, hHs⟩ : ∃ H : Heap, H = s.heap := ⟨_, rfl⟩
  have hS : va_S A s.heap H [] := by rw [hHs]; exact va_S.rf
  rw [← hHs] at hP ⊢
  obtain ⟨hx, hb, hr, hml, hown, hts, hK, hN, hA, hlocks, hF⟩ := id C0
  have h := hf
  unfold f_X7_isOn at h
  refine lv_iload_n hx hb dX7_isOn_0 rfl (lv_at hl 0 rfl) ?_
  refine lv_iload_n hx hb dX7_isOn_1 rfl (lv_at hl 1 rfl) ?_
  refine lv_iload_n hx hb dX7_isOn_2 rfl (lv_at hl 2 rfl) ?_
  refine lv_iload_n hx hb dX7_isOn_3 rfl (lv_at hl 3 rfl) ?_
  refine lv_iload hx hb dX7_isOn_4 (lv_at hl 4 rfl) ?_
  refine lv_iload hx hb dX7_isOn_6 (lv_at hl 5 rfl) ?_
  obtain ⟨r2, hc1, h⟩ := oc_bind h
  refine kro_i (wc := (WD0 cI cC cZ)) C0 hP hD hS [] rfl (kS (n := 6) (As := [.int p0, .int p1, .int p2, .int p3, .int p4, .int p5]) (rest := []) (wc := (WD0 cI cC cZ)) C0 hP hD hS [] rfl (by decide) (c_X7_side l D cI cC cZ  H.size  p0 p1 p2 p3 p4 p5 r2 hc1) kw_389 kw_387 kw_388 kw_5 (by decide +kernel) (by decide) rfl hl.1 rfl (Nat.le_of_ble_eq_true rfl) ⟨Nat.zero_le _, Nat.zero_le _⟩ dX7_isOn_8) (fun H locs hP hS => ?_)
  refine lv_if_ne (tgt := 38) hx hb dX7_isOn_11 (by decide) (fun c3 => ?_) (fun c3 => ?_)
  · have h := oc_f c3 h
    refine lv_iconst (v := (0 : Int32)) hx hb dX7_isOn_38 (by decide) ?_
    cases h
    exact kret_i C0 hP hD hS (by decide) dX7_isOn_39
  · have h := oc_t c3 h
    refine lv_iload_n hx hb dX7_isOn_14 rfl (lv_at hl 0 rfl) ?_
    refine lv_iload_n hx hb dX7_isOn_15 rfl (lv_at hl 2 rfl) ?_
    refine lv_iload hx hb dX7_isOn_16 (lv_at hl 4 rfl) ?_
    obtain ⟨r5, hc4, h⟩ := oc_bind h
    refine kro_i (wc := (WD0 cI cC cZ)) C0 hP hD hS [] rfl (kS (n := 3) (As := [.int p0, .int p2, .int p4]) (rest := []) (wc := (WD0 cI cC cZ)) C0 hP hD hS [] rfl (by decide) (c_X7_isBetween l D cI cC cZ  H.size  p0 p2 p4 r5 hc4) kw_392 kw_390 kw_391 kw_5 (by decide +kernel) (by decide) rfl hl.1 rfl (Nat.le_of_ble_eq_true rfl) ⟨Nat.zero_le _, Nat.zero_le _⟩ dX7_isOn_18) (fun H locs hP hS => ?_)
    refine lv_if_eq (tgt := 38) hx hb dX7_isOn_21 (by decide) (fun c6 => ?_) (fun c6 => ?_)
    · have h := oc_t c6 h
      refine lv_iconst (v := (0 : Int32)) hx hb dX7_isOn_38 (by decide) ?_
      cases h
      exact kret_i C0 hP hD hS (by decide) dX7_isOn_39
    · have h := oc_f c6 h
      refine lv_iload_n hx hb dX7_isOn_24 rfl (lv_at hl 1 rfl) ?_
      refine lv_iload_n hx hb dX7_isOn_25 rfl (lv_at hl 3 rfl) ?_
      refine lv_iload hx hb dX7_isOn_26 (lv_at hl 5 rfl) ?_
      obtain ⟨r8, hc7, h⟩ := oc_bind h
      refine kro_i (wc := (WD0 cI cC cZ)) C0 hP hD hS [] rfl (kS (n := 3) (As := [.int p1, .int p3, .int p5]) (rest := []) (wc := (WD0 cI cC cZ)) C0 hP hD hS [] rfl (by decide) (c_X7_isBetween l D cI cC cZ  H.size  p1 p3 p5 r8 hc7) kw_392 kw_390 kw_391 kw_5 (by decide +kernel) (by decide) rfl hl.1 rfl (Nat.le_of_ble_eq_true rfl) ⟨Nat.zero_le _, Nat.zero_le _⟩ dX7_isOn_28) (fun H locs hP hS => ?_)
      refine lv_if_eq (tgt := 38) hx hb dX7_isOn_31 (by decide) (fun c9 => ?_) (fun c9 => ?_)
      · have h := oc_t c9 h
        refine lv_iconst (v := (0 : Int32)) hx hb dX7_isOn_38 (by decide) ?_
        cases h
        exact kret_i C0 hP hD hS (by decide) dX7_isOn_39
      · have h := oc_f c9 h
        refine lv_iconst (v := (1 : Int32)) hx hb dX7_isOn_34 (by decide) ?_
        refine lv_goto (tgt := 39) hx hb dX7_isOn_35 (by decide) ?_
        cases h
        exact kret_i C0 hP hD hS (by decide) dX7_isOn_39
abbrev rm_X7_meets : Room := { frames := 3, cells := 0, slots := 0, locals := 72 }
noncomputable def bk_X7_meets_287  (p12 : Int32) (p13 : Int32) (s0 : Int32) : Option (Int32) := if p12 = 0 then (if p13 = 0 then (some (0 : Int32)) else (if s0 = 0 then (some (0 : Int32)) else (some (1 : Int32)))) else (some (1 : Int32))
set_option maxHeartbeats 4000000 in
set_option maxRecDepth 100000 in
theorem wk_X7_meets_287 {p : Program} {l : Launch} {e : Env} {s : State} {m : MethodId} {args : Array Value} {below : List Frame} {meth : Method} {c : Code} {D : va_G} {cI cC cZ : ClassId} {A : Nat → Prop} {a_M a_M_text a_M_plan a_M_read a_M_readPage a_M_page a_M_trial a_M_book a_M_kept a_M_isKept a_M_seenPoint a_M_seenSum a_M_seenWas : Nat} {M_thrown : Int32} {M_textSize : Int32} {M_place : Int32} {M_doings : Int32} {M_seen : Int32} {M_seed : Int64} {M_bestSet : Int32} {M_text : Nat → Int32} {M_plan : Nat → Int32} {M_read : Nat → Int32} {M_readPage : Nat → Int32} {M_page : Nat → Int32} {M_trial : Nat → Int32} {M_book : Nat → Int32} {M_kept : Nat → Int32} {M_isKept : Nat → Int32} {M_seenPoint : Nat → Int32} {M_seenSum : Nat → Int32} {M_seenWas : Nat → Int32} {p12 : Int32} {p13 : Int32} {s0 : Int32}  {rr : Int32} (C0 : kC p s m args meth c D (kTY cI cC cZ) cX7_meets (some .boolean) 15 RX7 A)  (h : bk_X7_meets_287  p12 p13 s0 = some rr) {H : Heap} {locs : List Loc} (hP : va_P D vwCl (WD16 cI cC cZ a_M a_M_text a_M_plan a_M_read a_M_readPage a_M_page a_M_trial a_M_book a_M_kept a_M_isKept a_M_seenPoint a_M_seenSum a_M_seenWas M_thrown M_textSize M_place M_doings M_seen M_seed M_bestSet M_text M_plan M_read M_readPage M_page M_trial M_book M_kept M_isKept M_seenPoint M_seenSum M_seenWas) H) (hD : va_D A (WD16 cI cC cZ a_M a_M_text a_M_plan a_M_read a_M_readPage a_M_page a_M_trial a_M_book a_M_kept a_M_isKept a_M_seenPoint a_M_seenSum a_M_seenWas M_thrown M_textSize M_place M_doings M_seen M_seed M_bestSet M_text M_plan M_read M_readPage M_page M_trial M_book M_kept M_isKept M_seenPoint M_seenSum M_seenWas)) (hS : va_S A s.heap H locs) {ls : Array Slot} (hl : lv_has ls 15 [(12, .int p12), (13, .int p13)]) : W p l e rm_X7_meets s m args below meth c H locs 0 0 (MQ below (kQI D (kTY cI cC cZ) A rr (WD16 cI cC cZ a_M a_M_text a_M_plan a_M_read a_M_readPage a_M_page a_M_trial a_M_book a_M_kept a_M_isKept a_M_seenPoint a_M_seenSum a_M_seenWas M_thrown M_textSize M_place M_doings M_seen M_seed M_bestSet M_text M_plan M_read M_readPage M_page M_trial M_book M_kept M_isKept M_seenPoint M_seenSum M_seenWas)) args s 0 0 A) (F0 m 287 ls [.int s0]) := by
  obtain ⟨hx, hb, hr, hml, hown, hts, hK, hN, hA, hlocks, hF⟩ := id C0
  unfold bk_X7_meets_287 at h
  refine lv_istore (lv' := [(14, .int s0), (12, .int p12), (13, .int p13)]) hx hb dX7_meets_287 hl (by decide) rfl (fun ls hl => ?_)
  refine lv_iload hx hb dX7_meets_289 (lv_at hl 1 rfl) ?_
  refine lv_if_ne (tgt := 304) hx hb dX7_meets_291 (by decide) (fun c1 => ?_) (fun c1 => ?_)
  · have h := oc_f c1 h
    refine lv_iconst (v := (1 : Int32)) hx hb dX7_meets_304 (by decide) ?_
    refine lv_goto (tgt := 309) hx hb dX7_meets_305 (by decide) ?_
    cases h
    exact kret_i C0 hP hD hS (by decide) dX7_meets_309
  · have h := oc_t c1 h
    refine lv_iload hx hb dX7_meets_294 (lv_at hl 2 rfl) ?_
    refine lv_if_eq (tgt := 308) hx hb dX7_meets_296 (by decide) (fun c2 => ?_) (fun c2 => ?_)
    · have h := oc_t c2 h
      refine lv_iconst (v := (0 : Int32)) hx hb dX7_meets_308 (by decide) ?_
      cases h
      exact kret_i C0 hP hD hS (by decide) dX7_meets_309
    · have h := oc_f c2 h
      refine lv_iload hx hb dX7_meets_299 (lv_at hl 0 rfl) ?_
      refine lv_if_eq (tgt := 308) hx hb dX7_meets_301 (by decide) (fun c3 => ?_) (fun c3 => ?_)
      · have h := oc_t c3 h
        refine lv_iconst (v := (0 : Int32)) hx hb dX7_meets_308 (by decide) ?_
        cases h
        exact kret_i C0 hP hD hS (by decide) dX7_meets_309
      · have h := oc_f c3 h
        refine lv_iconst (v := (1 : Int32)) hx hb dX7_meets_304 (by decide) ?_
        refine lv_goto (tgt := 309) hx hb dX7_meets_305 (by decide) ?_
        cases h
        exact kret_i C0 hP hD hS (by decide) dX7_meets_309
noncomputable def bk_X7_meets_246  (p4 : Int32) (p5 : Int32) (p6 : Int32) (p7 : Int32) (p8 : Int32) (p9 : Int32) (p10 : Int32) (p11 : Int32) (p12 : Int32) (s0 : Int32) : Option (Int32) := (f_X7_side p4 p5 p6 p7 p8 p9).bind (fun r2 => (f_X7_side p4 p5 p6 p7 p10 p11).bind (fun r4 => if 0 ≤ (r2 * r4) then (bk_X7_meets_287  p12 s0 (0 : Int32)) else (bk_X7_meets_287  p12 s0 (1 : Int32))))
set_option maxHeartbeats 4000000 in
set_option maxRecDepth 100000 in
theorem wk_X7_meets_246 {p : Program} {l : Launch} {e : Env} {s : State} {m : MethodId} {args : Array Value} {below : List Frame} {meth : Method} {c : Code} {D : va_G} {cI cC cZ : ClassId} {A : Nat → Prop} {a_M a_M_text a_M_plan a_M_read a_M_readPage a_M_page a_M_trial a_M_book a_M_kept a_M_isKept a_M_seenPoint a_M_seenSum a_M_seenWas : Nat} {M_thrown : Int32} {M_textSize : Int32} {M_place : Int32} {M_doings : Int32} {M_seen : Int32} {M_seed : Int64} {M_bestSet : Int32} {M_text : Nat → Int32} {M_plan : Nat → Int32} {M_read : Nat → Int32} {M_readPage : Nat → Int32} {M_page : Nat → Int32} {M_trial : Nat → Int32} {M_book : Nat → Int32} {M_kept : Nat → Int32} {M_isKept : Nat → Int32} {M_seenPoint : Nat → Int32} {M_seenSum : Nat → Int32} {M_seenWas : Nat → Int32} {p4 : Int32} {p5 : Int32} {p6 : Int32} {p7 : Int32} {p8 : Int32} {p9 : Int32} {p10 : Int32} {p11 : Int32} {p12 : Int32} {s0 : Int32}  {rr : Int32} (C0 : kC p s m args meth c D (kTY cI cC cZ) cX7_meets (some .boolean) 15 RX7 A)  (h : bk_X7_meets_246  p4 p5 p6 p7 p8 p9 p10 p11 p12 s0 = some rr) {H : Heap} {locs : List Loc} (hP : va_P D vwCl (WD16 cI cC cZ a_M a_M_text a_M_plan a_M_read a_M_readPage a_M_page a_M_trial a_M_book a_M_kept a_M_isKept a_M_seenPoint a_M_seenSum a_M_seenWas M_thrown M_textSize M_place M_doings M_seen M_seed M_bestSet M_text M_plan M_read M_readPage M_page M_trial M_book M_kept M_isKept M_seenPoint M_seenSum M_seenWas) H) (hD : va_D A (WD16 cI cC cZ a_M a_M_text a_M_plan a_M_read a_M_readPage a_M_page a_M_trial a_M_book a_M_kept a_M_isKept a_M_seenPoint a_M_seenSum a_M_seenWas M_thrown M_textSize M_place M_doings M_seen M_seed M_bestSet M_text M_plan M_read M_readPage M_page M_trial M_book M_kept M_isKept M_seenPoint M_seenSum M_seenWas)) (hS : va_S A s.heap H locs) {ls : Array Slot} (hl : lv_has ls 15 [(4, .int p4), (5, .int p5), (6, .int p6), (7, .int p7), (8, .int p8), (9, .int p9), (10, .int p10), (11, .int p11), (12, .int p12)]) : W p l e rm_X7_meets s m args below meth c H locs 0 0 (MQ below (kQI D (kTY cI cC cZ) A rr (WD16 cI cC cZ a_M a_M_text a_M_plan a_M_read a_M_readPage a_M_page a_M_trial a_M_book a_M_kept a_M_isKept a_M_seenPoint a_M_seenSum a_M_seenWas M_thrown M_textSize M_place M_doings M_seen M_seed M_bestSet M_text M_plan M_read M_readPage M_page M_trial M_book M_kept M_isKept M_seenPoint M_seenSum M_seenWas)) args s 0 0 A) (F0 m 246 ls [.int s0]) := by
  obtain ⟨hx, hb, hr, hml, hown, hts, hK, hN, hA, hlocks, hF⟩ := id C0
  unfold bk_X7_meets_246 at h
  refine lv_istore (lv' := [(13, .int s0), (4, .int p4), (5, .int p5), (6, .int p6), (7, .int p7), (8, .int p8), (9, .int p9), (10, .int p10), (11, .int p11), (12, .int p12)]) hx hb dX7_meets_246 hl (by decide) rfl (fun ls hl => ?_)
  refine lv_iload hx hb dX7_meets_248 (lv_at hl 1 rfl) ?_
  refine lv_iload hx hb dX7_meets_250 (lv_at hl 2 rfl) ?_
  refine lv_iload hx hb dX7_meets_252 (lv_at hl 3 rfl) ?_
  refine lv_iload hx hb dX7_meets_254 (lv_at hl 4 rfl) ?_
  refine lv_iload hx hb dX7_meets_256 (lv_at hl 5 rfl) ?_
  refine lv_iload hx hb dX7_meets_258 (lv_at hl 6 rfl) ?_
  obtain ⟨r2, hc1, h⟩ := oc_bind h
  refine kro_i (wc := (WD0 cI cC cZ)) C0 hP hD hS [] rfl (kS (n := 6) (As := [.int p4, .int p5, .int p6, .int p7, .int p8, .int p9]) (rest := []) (wc := (WD0 cI cC cZ)) C0 hP hD hS [] rfl (by decide) (c_X7_side l D cI cC cZ  H.size  p4 p5 p6 p7 p8 p9 r2 hc1) kw_389 kw_387 kw_388 kw_5 (by decide +kernel) (by decide) rfl hl.1 rfl (Nat.le_of_ble_eq_true rfl) ⟨Nat.zero_le _, Nat.zero_le _⟩ dX7_meets_260) (fun H locs hP hS => ?_)
  refine lv_iload hx hb dX7_meets_263 (lv_at hl 1 rfl) ?_
  refine lv_iload hx hb dX7_meets_265 (lv_at hl 2 rfl) ?_
  refine lv_iload hx hb dX7_meets_267 (lv_at hl 3 rfl) ?_
  refine lv_iload hx hb dX7_meets_269 (lv_at hl 4 rfl) ?_
  refine lv_iload hx hb dX7_meets_271 (lv_at hl 7 rfl) ?_
  refine lv_iload hx hb dX7_meets_273 (lv_at hl 8 rfl) ?_
  obtain ⟨r4, hc3, h⟩ := oc_bind h
  refine kro_i (wc := (WD0 cI cC cZ)) C0 hP hD hS [] rfl (kS (n := 6) (As := [.int p4, .int p5, .int p6, .int p7, .int p10, .int p11]) (rest := [.int r2]) (wc := (WD0 cI cC cZ)) C0 hP hD hS [] rfl (by decide) (c_X7_side l D cI cC cZ  H.size  p4 p5 p6 p7 p10 p11 r4 hc3) kw_389 kw_387 kw_388 kw_5 (by decide +kernel) (by decide) rfl hl.1 rfl (Nat.le_of_ble_eq_true rfl) ⟨Nat.zero_le _, Nat.zero_le _⟩ dX7_meets_275) (fun H locs hP hS => ?_)
  refine lv_imul hx hb dX7_meets_278 ?_
  refine lv_if_ge (tgt := 286) hx hb dX7_meets_279 (by decide) (fun c5 => ?_) (fun c5 => ?_)
  · have h := oc_t c5 h
    refine lv_iconst (v := (0 : Int32)) hx hb dX7_meets_286 (by decide) ?_
    exact wk_X7_meets_287 C0  h hP hD hS (lv_sub hl [9, 0] rfl)
  · have h := oc_f c5 h
    refine lv_iconst (v := (1 : Int32)) hx hb dX7_meets_282 (by decide) ?_
    refine lv_goto (tgt := 287) hx hb dX7_meets_283 (by decide) ?_
    exact wk_X7_meets_287 C0  h hP hD hS (lv_sub hl [9, 0] rfl)
noncomputable def bk_X7_meets_205  (p4 : Int32) (p5 : Int32) (p6 : Int32) (p7 : Int32) (p8 : Int32) (p9 : Int32) (p10 : Int32) (p11 : Int32) (s0 : Int32) : Option (Int32) := (f_X7_side p8 p9 p10 p11 p4 p5).bind (fun r2 => (f_X7_side p8 p9 p10 p11 p6 p7).bind (fun r4 => if 0 ≤ (r2 * r4) then (bk_X7_meets_246  p4 p5 p6 p7 p8 p9 p10 p11 s0 (0 : Int32)) else (bk_X7_meets_246  p4 p5 p6 p7 p8 p9 p10 p11 s0 (1 : Int32))))
set_option maxHeartbeats 4000000 in
set_option maxRecDepth 100000 in
theorem wk_X7_meets_205 {p : Program} {l : Launch} {e : Env} {s : State} {m : MethodId} {args : Array Value} {below : List Frame} {meth : Method} {c : Code} {D : va_G} {cI cC cZ : ClassId} {A : Nat → Prop} {a_M a_M_text a_M_plan a_M_read a_M_readPage a_M_page a_M_trial a_M_book a_M_kept a_M_isKept a_M_seenPoint a_M_seenSum a_M_seenWas : Nat} {M_thrown : Int32} {M_textSize : Int32} {M_place : Int32} {M_doings : Int32} {M_seen : Int32} {M_seed : Int64} {M_bestSet : Int32} {M_text : Nat → Int32} {M_plan : Nat → Int32} {M_read : Nat → Int32} {M_readPage : Nat → Int32} {M_page : Nat → Int32} {M_trial : Nat → Int32} {M_book : Nat → Int32} {M_kept : Nat → Int32} {M_isKept : Nat → Int32} {M_seenPoint : Nat → Int32} {M_seenSum : Nat → Int32} {M_seenWas : Nat → Int32} {p4 : Int32} {p5 : Int32} {p6 : Int32} {p7 : Int32} {p8 : Int32} {p9 : Int32} {p10 : Int32} {p11 : Int32} {s0 : Int32}  {rr : Int32} (C0 : kC p s m args meth c D (kTY cI cC cZ) cX7_meets (some .boolean) 15 RX7 A)  (h : bk_X7_meets_205  p4 p5 p6 p7 p8 p9 p10 p11 s0 = some rr) {H : Heap} {locs : List Loc} (hP : va_P D vwCl (WD16 cI cC cZ a_M a_M_text a_M_plan a_M_read a_M_readPage a_M_page a_M_trial a_M_book a_M_kept a_M_isKept a_M_seenPoint a_M_seenSum a_M_seenWas M_thrown M_textSize M_place M_doings M_seen M_seed M_bestSet M_text M_plan M_read M_readPage M_page M_trial M_book M_kept M_isKept M_seenPoint M_seenSum M_seenWas) H) (hD : va_D A (WD16 cI cC cZ a_M a_M_text a_M_plan a_M_read a_M_readPage a_M_page a_M_trial a_M_book a_M_kept a_M_isKept a_M_seenPoint a_M_seenSum a_M_seenWas M_thrown M_textSize M_place M_doings M_seen M_seed M_bestSet M_text M_plan M_read M_readPage M_page M_trial M_book M_kept M_isKept M_seenPoint M_seenSum M_seenWas)) (hS : va_S A s.heap H locs) {ls : Array Slot} (hl : lv_has ls 15 [(4, .int p4), (5, .int p5), (6, .int p6), (7, .int p7), (8, .int p8), (9, .int p9), (10, .int p10), (11, .int p11)]) : W p l e rm_X7_meets s m args below meth c H locs 0 0 (MQ below (kQI D (kTY cI cC cZ) A rr (WD16 cI cC cZ a_M a_M_text a_M_plan a_M_read a_M_readPage a_M_page a_M_trial a_M_book a_M_kept a_M_isKept a_M_seenPoint a_M_seenSum a_M_seenWas M_thrown M_textSize M_place M_doings M_seen M_seed M_bestSet M_text M_plan M_read M_readPage M_page M_trial M_book M_kept M_isKept M_seenPoint M_seenSum M_seenWas)) args s 0 0 A) (F0 m 205 ls [.int s0]) := by
  obtain ⟨hx, hb, hr, hml, hown, hts, hK, hN, hA, hlocks, hF⟩ := id C0
  unfold bk_X7_meets_205 at h
  refine lv_istore (lv' := [(12, .int s0), (4, .int p4), (5, .int p5), (6, .int p6), (7, .int p7), (8, .int p8), (9, .int p9), (10, .int p10), (11, .int p11)]) hx hb dX7_meets_205 hl (by decide) rfl (fun ls hl => ?_)
  refine lv_iload hx hb dX7_meets_207 (lv_at hl 5 rfl) ?_
  refine lv_iload hx hb dX7_meets_209 (lv_at hl 6 rfl) ?_
  refine lv_iload hx hb dX7_meets_211 (lv_at hl 7 rfl) ?_
  refine lv_iload hx hb dX7_meets_213 (lv_at hl 8 rfl) ?_
  refine lv_iload hx hb dX7_meets_215 (lv_at hl 1 rfl) ?_
  refine lv_iload hx hb dX7_meets_217 (lv_at hl 2 rfl) ?_
  obtain ⟨r2, hc1, h⟩ := oc_bind h
  refine kro_i (wc := (WD0 cI cC cZ)) C0 hP hD hS [] rfl (kS (n := 6) (As := [.int p8, .int p9, .int p10, .int p11, .int p4, .int p5]) (rest := []) (wc := (WD0 cI cC cZ)) C0 hP hD hS [] rfl (by decide) (c_X7_side l D cI cC cZ  H.size  p8 p9 p10 p11 p4 p5 r2 hc1) kw_389 kw_387 kw_388 kw_5 (by decide +kernel) (by decide) rfl hl.1 rfl (Nat.le_of_ble_eq_true rfl) ⟨Nat.zero_le _, Nat.zero_le _⟩ dX7_meets_219) (fun H locs hP hS => ?_)
  refine lv_iload hx hb dX7_meets_222 (lv_at hl 5 rfl) ?_
  refine lv_iload hx hb dX7_meets_224 (lv_at hl 6 rfl) ?_
  refine lv_iload hx hb dX7_meets_226 (lv_at hl 7 rfl) ?_
  refine lv_iload hx hb dX7_meets_228 (lv_at hl 8 rfl) ?_
  refine lv_iload hx hb dX7_meets_230 (lv_at hl 3 rfl) ?_
  refine lv_iload hx hb dX7_meets_232 (lv_at hl 4 rfl) ?_
  obtain ⟨r4, hc3, h⟩ := oc_bind h
  refine kro_i (wc := (WD0 cI cC cZ)) C0 hP hD hS [] rfl (kS (n := 6) (As := [.int p8, .int p9, .int p10, .int p11, .int p6, .int p7]) (rest := [.int r2]) (wc := (WD0 cI cC cZ)) C0 hP hD hS [] rfl (by decide) (c_X7_side l D cI cC cZ  H.size  p8 p9 p10 p11 p6 p7 r4 hc3) kw_389 kw_387 kw_388 kw_5 (by decide +kernel) (by decide) rfl hl.1 rfl (Nat.le_of_ble_eq_true rfl) ⟨Nat.zero_le _, Nat.zero_le _⟩ dX7_meets_234) (fun H locs hP hS => ?_)
  refine lv_imul hx hb dX7_meets_237 ?_
  refine lv_if_ge (tgt := 245) hx hb dX7_meets_238 (by decide) (fun c5 => ?_) (fun c5 => ?_)
  · have h := oc_t c5 h
    refine lv_iconst (v := (0 : Int32)) hx hb dX7_meets_245 (by decide) ?_
    exact wk_X7_meets_246 C0  h hP hD hS (lv_sub hl [1, 2, 3, 4, 5, 6, 7, 8, 0] rfl)
  · have h := oc_f c5 h
    refine lv_iconst (v := (1 : Int32)) hx hb dX7_meets_241 (by decide) ?_
    refine lv_goto (tgt := 246) hx hb dX7_meets_242 (by decide) ?_
    exact wk_X7_meets_246 C0  h hP hD hS (lv_sub hl [1, 2, 3, 4, 5, 6, 7, 8, 0] rfl)
noncomputable def bk_X7_meets_200  (p4 : Int32) (p5 : Int32) (p6 : Int32) (p7 : Int32) (p8 : Int32) (p9 : Int32) (p10 : Int32) (p11 : Int32) : Option (Int32) := bk_X7_meets_205  p4 p5 p6 p7 p8 p9 p10 p11 (1 : Int32)
set_option maxHeartbeats 4000000 in
set_option maxRecDepth 100000 in
theorem wk_X7_meets_200 {p : Program} {l : Launch} {e : Env} {s : State} {m : MethodId} {args : Array Value} {below : List Frame} {meth : Method} {c : Code} {D : va_G} {cI cC cZ : ClassId} {A : Nat → Prop} {a_M a_M_text a_M_plan a_M_read a_M_readPage a_M_page a_M_trial a_M_book a_M_kept a_M_isKept a_M_seenPoint a_M_seenSum a_M_seenWas : Nat} {M_thrown : Int32} {M_textSize : Int32} {M_place : Int32} {M_doings : Int32} {M_seen : Int32} {M_seed : Int64} {M_bestSet : Int32} {M_text : Nat → Int32} {M_plan : Nat → Int32} {M_read : Nat → Int32} {M_readPage : Nat → Int32} {M_page : Nat → Int32} {M_trial : Nat → Int32} {M_book : Nat → Int32} {M_kept : Nat → Int32} {M_isKept : Nat → Int32} {M_seenPoint : Nat → Int32} {M_seenSum : Nat → Int32} {M_seenWas : Nat → Int32} {p4 : Int32} {p5 : Int32} {p6 : Int32} {p7 : Int32} {p8 : Int32} {p9 : Int32} {p10 : Int32} {p11 : Int32}  {rr : Int32} (C0 : kC p s m args meth c D (kTY cI cC cZ) cX7_meets (some .boolean) 15 RX7 A)  (h : bk_X7_meets_200  p4 p5 p6 p7 p8 p9 p10 p11 = some rr) {H : Heap} {locs : List Loc} (hP : va_P D vwCl (WD16 cI cC cZ a_M a_M_text a_M_plan a_M_read a_M_readPage a_M_page a_M_trial a_M_book a_M_kept a_M_isKept a_M_seenPoint a_M_seenSum a_M_seenWas M_thrown M_textSize M_place M_doings M_seen M_seed M_bestSet M_text M_plan M_read M_readPage M_page M_trial M_book M_kept M_isKept M_seenPoint M_seenSum M_seenWas) H) (hD : va_D A (WD16 cI cC cZ a_M a_M_text a_M_plan a_M_read a_M_readPage a_M_page a_M_trial a_M_book a_M_kept a_M_isKept a_M_seenPoint a_M_seenSum a_M_seenWas M_thrown M_textSize M_place M_doings M_seen M_seed M_bestSet M_text M_plan M_read M_readPage M_page M_trial M_book M_kept M_isKept M_seenPoint M_seenSum M_seenWas)) (hS : va_S A s.heap H locs) {ls : Array Slot} (hl : lv_has ls 15 [(4, .int p4), (5, .int p5), (6, .int p6), (7, .int p7), (8, .int p8), (9, .int p9), (10, .int p10), (11, .int p11)]) : W p l e rm_X7_meets s m args below meth c H locs 0 0 (MQ below (kQI D (kTY cI cC cZ) A rr (WD16 cI cC cZ a_M a_M_text a_M_plan a_M_read a_M_readPage a_M_page a_M_trial a_M_book a_M_kept a_M_isKept a_M_seenPoint a_M_seenSum a_M_seenWas M_thrown M_textSize M_place M_doings M_seen M_seed M_bestSet M_text M_plan M_read M_readPage M_page M_trial M_book M_kept M_isKept M_seenPoint M_seenSum M_seenWas)) args s 0 0 A) (F0 m 200 ls []) := by
  obtain ⟨hx, hb, hr, hml, hown, hts, hK, hN, hA, hlocks, hF⟩ := id C0
  unfold bk_X7_meets_200 at h
  refine lv_iconst (v := (1 : Int32)) hx hb dX7_meets_200 (by decide) ?_
  refine lv_goto (tgt := 205) hx hb dX7_meets_201 (by decide) ?_
  exact wk_X7_meets_205 C0  h hP hD hS (lv_sub hl [0, 1, 2, 3, 4, 5, 6, 7] rfl)
noncomputable def f_X7_meets (M_plan : Nat → Int32) (p1 : Int32) (p2 : Int32) (p3 : Int32) : Option (Int32) := if (((14 : Int32) + ((4 : Int32) * p1)) < 0 ∨ 78 ≤ Int32.toNatClampNeg ((14 : Int32) + ((4 : Int32) * p1))) then none else (nm_ (((2 : Int32) * (M_plan (Int32.toNatClampNeg ((14 : Int32) + ((4 : Int32) * p1))))) + (1 : Int32)) (fun t2 => if (((15 : Int32) + ((4 : Int32) * p1)) < 0 ∨ 78 ≤ Int32.toNatClampNeg ((15 : Int32) + ((4 : Int32) * p1))) then none else (nm_ (((2 : Int32) * (M_plan (Int32.toNatClampNeg ((15 : Int32) + ((4 : Int32) * p1))))) + (1 : Int32)) (fun t4 => if (((46 : Int32) + ((2 : Int32) * p2)) < 0 ∨ 78 ≤ Int32.toNatClampNeg ((46 : Int32) + ((2 : Int32) * p2))) then none else (nm_ (((2 : Int32) * (M_plan (Int32.toNatClampNeg ((46 : Int32) + ((2 : Int32) * p2))))) + (1 : Int32)) (fun t6 => if (((47 : Int32) + ((2 : Int32) * p2)) < 0 ∨ 78 ≤ Int32.toNatClampNeg ((47 : Int32) + ((2 : Int32) * p2))) then none else (nm_ (((2 : Int32) * (M_plan (Int32.toNatClampNeg ((47 : Int32) + ((2 : Int32) * p2))))) + (1 : Int32)) (fun t8 => if (((58 : Int32) + ((4 : Int32) * p3)) < 0 ∨ 78 ≤ Int32.toNatClampNeg ((58 : Int32) + ((4 : Int32) * p3))) then none else (nm_ ((2 : Int32) * (M_plan (Int32.toNatClampNeg ((58 : Int32) + ((4 : Int32) * p3))))) (fun t10 => if (((59 : Int32) + ((4 : Int32) * p3)) < 0 ∨ 78 ≤ Int32.toNatClampNeg ((59 : Int32) + ((4 : Int32) * p3))) then none else (nm_ ((2 : Int32) * (M_plan (Int32.toNatClampNeg ((59 : Int32) + ((4 : Int32) * p3))))) (fun t12 => if (((60 : Int32) + ((4 : Int32) * p3)) < 0 ∨ 78 ≤ Int32.toNatClampNeg ((60 : Int32) + ((4 : Int32) * p3))) then none else (nm_ ((2 : Int32) * (M_plan (Int32.toNatClampNeg ((60 : Int32) + ((4 : Int32) * p3))))) (fun t14 => if (((61 : Int32) + ((4 : Int32) * p3)) < 0 ∨ 78 ≤ Int32.toNatClampNeg ((61 : Int32) + ((4 : Int32) * p3))) then none else (nm_ ((2 : Int32) * (M_plan (Int32.toNatClampNeg ((61 : Int32) + ((4 : Int32) * p3))))) (fun t16 => (f_X7_isOn t10 t12 t14 t16 t2 t4).bind (fun r18 => if r18 = 0 then ((f_X7_isOn t10 t12 t14 t16 t6 t8).bind (fun r21 => if r21 = 0 then ((f_X7_isOn t2 t4 t6 t8 t10 t12).bind (fun r24 => if r24 = 0 then ((f_X7_isOn t2 t4 t6 t8 t14 t16).bind (fun r27 => if r27 = 0 then (bk_X7_meets_205  t2 t4 t6 t8 t10 t12 t14 t16 (0 : Int32)) else (bk_X7_meets_200  t2 t4 t6 t8 t10 t12 t14 t16))) else (bk_X7_meets_200  t2 t4 t6 t8 t10 t12 t14 t16))) else (bk_X7_meets_200  t2 t4 t6 t8 t10 t12 t14 t16))) else (bk_X7_meets_200  t2 t4 t6 t8 t10 t12 t14 t16))))))))))))))))))
set_option maxHeartbeats 4000000 in
set_option maxRecDepth 100000 in
theorem c_X7_meets (l : Launch) (D : va_G) (cI cC cZ : ClassId) (a_M a_M_text a_M_plan a_M_read a_M_readPage a_M_page a_M_trial a_M_book a_M_kept a_M_isKept a_M_seenPoint a_M_seenSum a_M_seenWas : Nat) (sz : Nat) (M_thrown : Int32) (M_textSize : Int32) (M_place : Int32) (M_doings : Int32) (M_seen : Int32) (M_seed : Int64) (M_bestSet : Int32) (M_text : Nat → Int32) (M_plan : Nat → Int32) (M_read : Nat → Int32) (M_readPage : Nat → Int32) (M_page : Nat → Int32) (M_trial : Nat → Int32) (M_book : Nat → Int32) (M_kept : Nat → Int32) (M_isKept : Nat → Int32) (M_seenPoint : Nat → Int32) (M_seenSum : Nat → Int32) (M_seenWas : Nat → Int32) (p1 : Int32) (p2 : Int32) (p3 : Int32) (rr : Int32) (hf : f_X7_meets M_plan p1 p2 p3 = some rr) : kMet l yX7_meets cX7_meets 15 (some .boolean) rm_X7_meets D (kTY cI cC cZ) [.ref a_M, .int p1, .int p2, .int p3] (WD16 cI cC cZ a_M a_M_text a_M_plan a_M_read a_M_readPage a_M_page a_M_trial a_M_book a_M_kept a_M_isKept a_M_seenPoint a_M_seenSum a_M_seenWas M_thrown M_textSize M_place M_doings M_seen M_seed M_bestSet M_text M_plan M_read M_readPage M_page M_trial M_book M_kept M_isKept M_seenPoint M_seenSum M_seenWas) sz (kQI D (kTY cI cC cZ) (va_A (WD16 cI cC cZ a_M a_M_text a_M_plan a_M_read a_M_readPage a_M_page a_M_trial a_M_book a_M_kept a_M_isKept a_M_seenPoint a_M_seenSum a_M_seenWas M_thrown M_textSize M_place M_doings M_seen M_seed M_bestSet M_text M_plan M_read M_readPage M_page M_trial M_book M_kept M_isKept M_seenPoint M_seenSum M_seenWas) sz) rr (WD16 cI cC cZ a_M a_M_text a_M_plan a_M_read a_M_readPage a_M_page a_M_trial a_M_book a_M_kept a_M_isKept a_M_seenPoint a_M_seenSum a_M_seenWas M_thrown M_textSize M_place M_doings M_seen M_seed M_bestSet M_text M_plan M_read M_readPage M_page M_trial M_book M_kept M_isKept M_seenPoint M_seenSum M_seenWas)) := by
  refine kEnter (lv := [(0, .ref a_M), (1, .int p1), (2, .int p2), (3, .int p3)]) (own := RX7) (by decide) rfl (Nat.le_of_ble_eq_true rfl) rfl ?_
  intro p e s m below meth c hsz C0 hP hD hS ls hl
  generalize (va_A (WD16 cI cC cZ a_M a_M_text a_M_plan a_M_read a_M_readPage a_M_page a_M_trial a_M_book a_M_kept a_M_isKept a_M_seenPoint a_M_seenSum a_M_seenWas M_thrown M_textSize M_place M_doings M_seen M_seed M_bestSet M_text M_plan M_read M_readPage M_page M_trial M_book M_kept M_isKept M_seenPoint M_seenSum M_seenWas) sz) = A at C0 hD hS ⊢
  clear hsz hS
  obtain ⟨H, hHs⟩ : ∃ H : Heap, H = s.heap := ⟨_, rfl⟩
  have hS : va_S A s.heap H [] := by rw [hHs]; exact va_S.rf
  rw [← hHs] at hP ⊢
  obtain ⟨hx, hb, hr, hml, hown, hts, hK, hN, hA, hlocks, hF⟩ := id C0
  have h := hf
  unfold f_X7_meets at h
  refine lv_iconst (v := (2 : Int32)) hx hb dX7_meets_0 (by decide) ?_
  refine lv_aload_n hx hb dX7_meets_1 rfl (lv_at hl 0 rfl) ?_
  refine va_get (D := D) (ci := 7) (v := .ref a_M_plan) (C := RX7) (T := TX7) (N := 19) hx hb hts inlX7 hown hK hP 0 rfl rfl 4 (by decide) (hts _ kw_85) (fun _ h9 => h9) rfl dX7_meets_2 ?_
  refine lv_bipush (v := (14 : Int32)) hx hb dX7_meets_5 (by decide) ?_
  refine lv_iconst (v := (4 : Int32)) hx hb dX7_meets_7 (by decide) ?_
  refine lv_iload_n hx hb dX7_meets_8 rfl (lv_at hl 1 rfl) ?_
  refine lv_imul hx hb dX7_meets_9 ?_
  refine lv_iadd hx hb dX7_meets_10 ?_
  obtain ⟨hb1, h⟩ := oc_else h
  refine va_iald hx hb hK hP 2 0 rfl rfl hb1 dX7_meets_11 ?_
  refine lv_imul hx hb dX7_meets_12 ?_
  refine lv_iconst (v := (1 : Int32)) hx hb dX7_meets_13 (by decide) ?_
  refine lv_iadd hx hb dX7_meets_14 ?_
  refine lv_topi (fun t2 e_t2 => ?_)
  have h := oc_nm e_t2 h
  refine lv_istore (lv' := [(4, .int t2), (0, .ref a_M), (1, .int p1), (2, .int p2), (3, .int p3)]) hx hb dX7_meets_15 hl (by decide) rfl (fun ls hl => ?_)
  refine lv_iconst (v := (2 : Int32)) hx hb dX7_meets_17 (by decide) ?_
  refine lv_aload_n hx hb dX7_meets_18 rfl (lv_at hl 1 rfl) ?_
  refine va_get (D := D) (ci := 7) (v := .ref a_M_plan) (C := RX7) (T := TX7) (N := 19) hx hb hts inlX7 hown hK hP 0 rfl rfl 4 (by decide) (hts _ kw_85) (fun _ h9 => h9) rfl dX7_meets_19 ?_
  refine lv_bipush (v := (15 : Int32)) hx hb dX7_meets_22 (by decide) ?_
  refine lv_iconst (v := (4 : Int32)) hx hb dX7_meets_24 (by decide) ?_
  refine lv_iload_n hx hb dX7_meets_25 rfl (lv_at hl 2 rfl) ?_
  refine lv_imul hx hb dX7_meets_26 ?_
  refine lv_iadd hx hb dX7_meets_27 ?_
  obtain ⟨hb3, h⟩ := oc_else h
  refine va_iald hx hb hK hP 2 0 rfl rfl hb3 dX7_meets_28 ?_
  refine lv_imul hx hb dX7_meets_29 ?_
  refine lv_iconst (v := (1 : Int32)) hx hb dX7_meets_30 (by decide) ?_
  refine lv_iadd hx hb dX7_meets_31 ?_
  refine lv_topi (fun t4 e_t4 => ?_)
  have h := oc_nm e_t4 h
  refine lv_istore (lv' := [(5, .int t4), (4, .int t2), (0, .ref a_M), (1, .int p1), (2, .int p2), (3, .int p3)]) hx hb dX7_meets_32 hl (by decide) rfl (fun ls hl => ?_)
  refine lv_iconst (v := (2 : Int32)) hx hb dX7_meets_34 (by decide) ?_
  refine lv_aload_n hx hb dX7_meets_35 rfl (lv_at hl 2 rfl) ?_
  refine va_get (D := D) (ci := 7) (v := .ref a_M_plan) (C := RX7) (T := TX7) (N := 19) hx hb hts inlX7 hown hK hP 0 rfl rfl 4 (by decide) (hts _ kw_85) (fun _ h9 => h9) rfl dX7_meets_36 ?_
  refine lv_bipush (v := (46 : Int32)) hx hb dX7_meets_39 (by decide) ?_
  refine lv_iconst (v := (2 : Int32)) hx hb dX7_meets_41 (by decide) ?_
  refine lv_iload_n hx hb dX7_meets_42 rfl (lv_at hl 4 rfl) ?_
  refine lv_imul hx hb dX7_meets_43 ?_
  refine lv_iadd hx hb dX7_meets_44 ?_
  obtain ⟨hb5, h⟩ := oc_else h
  refine va_iald hx hb hK hP 2 0 rfl rfl hb5 dX7_meets_45 ?_
  refine lv_imul hx hb dX7_meets_46 ?_
  refine lv_iconst (v := (1 : Int32)) hx hb dX7_meets_47 (by decide) ?_
  refine lv_iadd hx hb dX7_meets_48 ?_
  refine lv_topi (fun t6 e_t6 => ?_)
  have h := oc_nm e_t6 h
  refine lv_istore (lv' := [(6, .int t6), (5, .int t4), (4, .int t2), (0, .ref a_M), (1, .int p1), (2, .int p2), (3, .int p3)]) hx hb dX7_meets_49 hl (by decide) rfl (fun ls hl => ?_)
  refine lv_iconst (v := (2 : Int32)) hx hb dX7_meets_51 (by decide) ?_
  refine lv_aload_n hx hb dX7_meets_52 rfl (lv_at hl 3 rfl) ?_
  refine va_get (D := D) (ci := 7) (v := .ref a_M_plan) (C := RX7) (T := TX7) (N := 19) hx hb hts inlX7 hown hK hP 0 rfl rfl 4 (by decide) (hts _ kw_85) (fun _ h9 => h9) rfl dX7_meets_53 ?_
  refine lv_bipush (v := (47 : Int32)) hx hb dX7_meets_56 (by decide) ?_
  refine lv_iconst (v := (2 : Int32)) hx hb dX7_meets_58 (by decide) ?_
  refine lv_iload_n hx hb dX7_meets_59 rfl (lv_at hl 5 rfl) ?_
  refine lv_imul hx hb dX7_meets_60 ?_
  refine lv_iadd hx hb dX7_meets_61 ?_
  obtain ⟨hb7, h⟩ := oc_else h
  refine va_iald hx hb hK hP 2 0 rfl rfl hb7 dX7_meets_62 ?_
  refine lv_imul hx hb dX7_meets_63 ?_
  refine lv_iconst (v := (1 : Int32)) hx hb dX7_meets_64 (by decide) ?_
  refine lv_iadd hx hb dX7_meets_65 ?_
  refine lv_topi (fun t8 e_t8 => ?_)
  have h := oc_nm e_t8 h
  refine lv_istore (lv' := [(7, .int t8), (6, .int t6), (5, .int t4), (4, .int t2), (0, .ref a_M), (1, .int p1), (2, .int p2), (3, .int p3)]) hx hb dX7_meets_66 hl (by decide) rfl (fun ls hl => ?_)
  refine lv_iconst (v := (2 : Int32)) hx hb dX7_meets_68 (by decide) ?_
  refine lv_aload_n hx hb dX7_meets_69 rfl (lv_at hl 4 rfl) ?_
  refine va_get (D := D) (ci := 7) (v := .ref a_M_plan) (C := RX7) (T := TX7) (N := 19) hx hb hts inlX7 hown hK hP 0 rfl rfl 4 (by decide) (hts _ kw_85) (fun _ h9 => h9) rfl dX7_meets_70 ?_
  refine lv_bipush (v := (58 : Int32)) hx hb dX7_meets_73 (by decide) ?_
  refine lv_iconst (v := (4 : Int32)) hx hb dX7_meets_75 (by decide) ?_
  refine lv_iload_n hx hb dX7_meets_76 rfl (lv_at hl 7 rfl) ?_
  refine lv_imul hx hb dX7_meets_77 ?_
  refine lv_iadd hx hb dX7_meets_78 ?_
  obtain ⟨hb9, h⟩ := oc_else h
  refine va_iald hx hb hK hP 2 0 rfl rfl hb9 dX7_meets_79 ?_
  refine lv_imul hx hb dX7_meets_80 ?_
  refine lv_topi (fun t10 e_t10 => ?_)
  have h := oc_nm e_t10 h
  refine lv_istore (lv' := [(8, .int t10), (7, .int t8), (6, .int t6), (5, .int t4), (4, .int t2), (0, .ref a_M), (1, .int p1), (2, .int p2), (3, .int p3)]) hx hb dX7_meets_81 hl (by decide) rfl (fun ls hl => ?_)
  refine lv_iconst (v := (2 : Int32)) hx hb dX7_meets_83 (by decide) ?_
  refine lv_aload_n hx hb dX7_meets_84 rfl (lv_at hl 5 rfl) ?_
  refine va_get (D := D) (ci := 7) (v := .ref a_M_plan) (C := RX7) (T := TX7) (N := 19) hx hb hts inlX7 hown hK hP 0 rfl rfl 4 (by decide) (hts _ kw_85) (fun _ h9 => h9) rfl dX7_meets_85 ?_
  refine lv_bipush (v := (59 : Int32)) hx hb dX7_meets_88 (by decide) ?_
  refine lv_iconst (v := (4 : Int32)) hx hb dX7_meets_90 (by decide) ?_
  refine lv_iload_n hx hb dX7_meets_91 rfl (lv_at hl 8 rfl) ?_
  refine lv_imul hx hb dX7_meets_92 ?_
  refine lv_iadd hx hb dX7_meets_93 ?_
  obtain ⟨hb11, h⟩ := oc_else h
  refine va_iald hx hb hK hP 2 0 rfl rfl hb11 dX7_meets_94 ?_
  refine lv_imul hx hb dX7_meets_95 ?_
  refine lv_topi (fun t12 e_t12 => ?_)
  have h := oc_nm e_t12 h
  refine lv_istore (lv' := [(9, .int t12), (8, .int t10), (7, .int t8), (6, .int t6), (5, .int t4), (4, .int t2), (0, .ref a_M), (1, .int p1), (2, .int p2), (3, .int p3)]) hx hb dX7_meets_96 hl (by decide) rfl (fun ls hl => ?_)
  refine lv_iconst (v := (2 : Int32)) hx hb dX7_meets_98 (by decide) ?_
  refine lv_aload_n hx hb dX7_meets_99 rfl (lv_at hl 6 rfl) ?_
  refine va_get (D := D) (ci := 7) (v := .ref a_M_plan) (C := RX7) (T := TX7) (N := 19) hx hb hts inlX7 hown hK hP 0 rfl rfl 4 (by decide) (hts _ kw_85) (fun _ h9 => h9) rfl dX7_meets_100 ?_
  refine lv_bipush (v := (60 : Int32)) hx hb dX7_meets_103 (by decide) ?_
  refine lv_iconst (v := (4 : Int32)) hx hb dX7_meets_105 (by decide) ?_
  refine lv_iload_n hx hb dX7_meets_106 rfl (lv_at hl 9 rfl) ?_
  refine lv_imul hx hb dX7_meets_107 ?_
  refine lv_iadd hx hb dX7_meets_108 ?_
  obtain ⟨hb13, h⟩ := oc_else h
  refine va_iald hx hb hK hP 2 0 rfl rfl hb13 dX7_meets_109 ?_
  refine lv_imul hx hb dX7_meets_110 ?_
  refine lv_topi (fun t14 e_t14 => ?_)
  have h := oc_nm e_t14 h
  refine lv_istore (lv' := [(10, .int t14), (9, .int t12), (8, .int t10), (7, .int t8), (6, .int t6), (5, .int t4), (4, .int t2), (0, .ref a_M), (1, .int p1), (2, .int p2), (3, .int p3)]) hx hb dX7_meets_111 hl (by decide) rfl (fun ls hl => ?_)
  refine lv_iconst (v := (2 : Int32)) hx hb dX7_meets_113 (by decide) ?_
  refine lv_aload_n hx hb dX7_meets_114 rfl (lv_at hl 7 rfl) ?_
  refine va_get (D := D) (ci := 7) (v := .ref a_M_plan) (C := RX7) (T := TX7) (N := 19) hx hb hts inlX7 hown hK hP 0 rfl rfl 4 (by decide) (hts _ kw_85) (fun _ h9 => h9) rfl dX7_meets_115 ?_
  refine lv_bipush (v := (61 : Int32)) hx hb dX7_meets_118 (by decide) ?_
  refine lv_iconst (v := (4 : Int32)) hx hb dX7_meets_120 (by decide) ?_
  refine lv_iload_n hx hb dX7_meets_121 rfl (lv_at hl 10 rfl) ?_
  refine lv_imul hx hb dX7_meets_122 ?_
  refine lv_iadd hx hb dX7_meets_123 ?_
  obtain ⟨hb15, h⟩ := oc_else h
  refine va_iald hx hb hK hP 2 0 rfl rfl hb15 dX7_meets_124 ?_
  refine lv_imul hx hb dX7_meets_125 ?_
  refine lv_topi (fun t16 e_t16 => ?_)
  have h := oc_nm e_t16 h
  refine lv_istore (lv' := [(11, .int t16), (10, .int t14), (9, .int t12), (8, .int t10), (7, .int t8), (6, .int t6), (5, .int t4), (4, .int t2), (0, .ref a_M), (1, .int p1), (2, .int p2), (3, .int p3)]) hx hb dX7_meets_126 hl (by decide) rfl (fun ls hl => ?_)
  refine lv_iload hx hb dX7_meets_128 (lv_at hl 3 rfl) ?_
  refine lv_iload hx hb dX7_meets_130 (lv_at hl 2 rfl) ?_
  refine lv_iload hx hb dX7_meets_132 (lv_at hl 1 rfl) ?_
  refine lv_iload hx hb dX7_meets_134 (lv_at hl 0 rfl) ?_
  refine lv_iload hx hb dX7_meets_136 (lv_at hl 7 rfl) ?_
  refine lv_iload hx hb dX7_meets_138 (lv_at hl 6 rfl) ?_
  obtain ⟨r18, hc17, h⟩ := oc_bind h
  refine kro_i (wc := (WD0 cI cC cZ)) C0 hP hD hS [] rfl (kS (n := 6) (As := [.int t10, .int t12, .int t14, .int t16, .int t2, .int t4]) (rest := []) (wc := (WD0 cI cC cZ)) C0 hP hD hS [] rfl (by decide) (c_X7_isOn l D cI cC cZ  H.size  t10 t12 t14 t16 t2 t4 r18 hc17) kw_386 kw_384 kw_385 kw_5 (by decide +kernel) (by decide) rfl hl.1 rfl (Nat.le_of_ble_eq_true rfl) ⟨Nat.zero_le _, Nat.zero_le _⟩ dX7_meets_140) (fun H locs hP hS => ?_)
  refine lv_if_ne (tgt := 200) hx hb dX7_meets_143 (by decide) (fun c19 => ?_) (fun c19 => ?_)
  · have h := oc_f c19 h
    exact wk_X7_meets_200 C0  h hP hD hS (lv_sub hl [7, 6, 5, 4, 3, 2, 1, 0] rfl)
  · have h := oc_t c19 h
    refine lv_iload hx hb dX7_meets_146 (lv_at hl 3 rfl) ?_
    refine lv_iload hx hb dX7_meets_148 (lv_at hl 2 rfl) ?_
    refine lv_iload hx hb dX7_meets_150 (lv_at hl 1 rfl) ?_
    refine lv_iload hx hb dX7_meets_152 (lv_at hl 0 rfl) ?_
    refine lv_iload hx hb dX7_meets_154 (lv_at hl 5 rfl) ?_
    refine lv_iload hx hb dX7_meets_156 (lv_at hl 4 rfl) ?_
    obtain ⟨r21, hc20, h⟩ := oc_bind h
    refine kro_i (wc := (WD0 cI cC cZ)) C0 hP hD hS [] rfl (kS (n := 6) (As := [.int t10, .int t12, .int t14, .int t16, .int t6, .int t8]) (rest := []) (wc := (WD0 cI cC cZ)) C0 hP hD hS [] rfl (by decide) (c_X7_isOn l D cI cC cZ  H.size  t10 t12 t14 t16 t6 t8 r21 hc20) kw_386 kw_384 kw_385 kw_5 (by decide +kernel) (by decide) rfl hl.1 rfl (Nat.le_of_ble_eq_true rfl) ⟨Nat.zero_le _, Nat.zero_le _⟩ dX7_meets_158) (fun H locs hP hS => ?_)
    refine lv_if_ne (tgt := 200) hx hb dX7_meets_161 (by decide) (fun c22 => ?_) (fun c22 => ?_)
    · have h := oc_f c22 h
      exact wk_X7_meets_200 C0  h hP hD hS (lv_sub hl [7, 6, 5, 4, 3, 2, 1, 0] rfl)
    · have h := oc_t c22 h
      refine lv_iload hx hb dX7_meets_164 (lv_at hl 7 rfl) ?_
      refine lv_iload hx hb dX7_meets_166 (lv_at hl 6 rfl) ?_
      refine lv_iload hx hb dX7_meets_168 (lv_at hl 5 rfl) ?_
      refine lv_iload hx hb dX7_meets_170 (lv_at hl 4 rfl) ?_
      refine lv_iload hx hb dX7_meets_172 (lv_at hl 3 rfl) ?_
      refine lv_iload hx hb dX7_meets_174 (lv_at hl 2 rfl) ?_
      obtain ⟨r24, hc23, h⟩ := oc_bind h
      refine kro_i (wc := (WD0 cI cC cZ)) C0 hP hD hS [] rfl (kS (n := 6) (As := [.int t2, .int t4, .int t6, .int t8, .int t10, .int t12]) (rest := []) (wc := (WD0 cI cC cZ)) C0 hP hD hS [] rfl (by decide) (c_X7_isOn l D cI cC cZ  H.size  t2 t4 t6 t8 t10 t12 r24 hc23) kw_386 kw_384 kw_385 kw_5 (by decide +kernel) (by decide) rfl hl.1 rfl (Nat.le_of_ble_eq_true rfl) ⟨Nat.zero_le _, Nat.zero_le _⟩ dX7_meets_176) (fun H locs hP hS => ?_)
      refine lv_if_ne (tgt := 200) hx hb dX7_meets_179 (by decide) (fun c25 => ?_) (fun c25 => ?_)
      · have h := oc_f c25 h
        exact wk_X7_meets_200 C0  h hP hD hS (lv_sub hl [7, 6, 5, 4, 3, 2, 1, 0] rfl)
      · have h := oc_t c25 h
        refine lv_iload hx hb dX7_meets_182 (lv_at hl 7 rfl) ?_
        refine lv_iload hx hb dX7_meets_184 (lv_at hl 6 rfl) ?_
        refine lv_iload hx hb dX7_meets_186 (lv_at hl 5 rfl) ?_
        refine lv_iload hx hb dX7_meets_188 (lv_at hl 4 rfl) ?_
        refine lv_iload hx hb dX7_meets_190 (lv_at hl 1 rfl) ?_
        refine lv_iload hx hb dX7_meets_192 (lv_at hl 0 rfl) ?_
        obtain ⟨r27, hc26, h⟩ := oc_bind h
        refine kro_i (wc := (WD0 cI cC cZ)) C0 hP hD hS [] rfl (kS (n := 6) (As := [.int t2, .int t4, .int t6, .int t8, .int t14, .int t16]) (rest := []) (wc := (WD0 cI cC cZ)) C0 hP hD hS [] rfl (by decide) (c_X7_isOn l D cI cC cZ  H.size  t2 t4 t6 t8 t14 t16 r27 hc26) kw_386 kw_384 kw_385 kw_5 (by decide +kernel) (by decide) rfl hl.1 rfl (Nat.le_of_ble_eq_true rfl) ⟨Nat.zero_le _, Nat.zero_le _⟩ dX7_meets_194) (fun H locs hP hS => ?_)
        refine lv_if_eq (tgt := 204) hx hb dX7_meets_197 (by decide) (fun c28 => ?_) (fun c28 => ?_)
        · have h := oc_t c28 h
          refine lv_iconst (v := (0 : Int32)) hx hb dX7_meets_204 (by decide) ?_
          exact wk_X7_meets_205 C0  h hP hD hS (lv_sub hl [7, 6, 5, 4, 3, 2, 1, 0] rfl)
        · have h := oc_f c28 h
          exact wk_X7_meets_200 C0  h hP hD hS (lv_sub hl [7, 6, 5, 4, 3, 2, 1, 0] rfl)
abbrev rm_X7_shadeBy : Room := { frames := 4, cells := 0, slots := 0, locals := 106 }
noncomputable def bk_X7_shadeBy_3 (k3 : Int32 → Option (Int32)) (M_plan : Nat → Int32) (p1 : Int32) (p2 : Int32) (p3 : Int32) (p4 : Int32) : Option (Int32) := (f_X7_walls M_plan).bind (fun r2 => if r2 ≤ p4 then (some (-9 : Int32)) else ((f_X7_has p3 p4).bind (fun r5 => if r5 = 0 then (nm_ (p4 + (1 : Int32)) (fun t7 => k3 t7)) else ((f_X7_meets M_plan p1 p2 p4).bind (fun r9 => if r9 = 0 then (nm_ (p4 + (1 : Int32)) (fun t11 => k3 t11)) else (some p4))))))
set_option maxHeartbeats 4000000 in
set_option maxRecDepth 100000 in
theorem wk_X7_shadeBy_3 {p : Program} {l : Launch} {e : Env} {s : State} {m : MethodId} {args : Array Value} {below : List Frame} {meth : Method} {c : Code} {D : va_G} {cI cC cZ : ClassId} {A : Nat → Prop} {a_M a_M_text a_M_plan a_M_read a_M_readPage a_M_page a_M_trial a_M_book a_M_kept a_M_isKept a_M_seenPoint a_M_seenSum a_M_seenWas : Nat} {M_thrown : Int32} {M_textSize : Int32} {M_place : Int32} {M_doings : Int32} {M_seen : Int32} {M_seed : Int64} {M_bestSet : Int32} {M_text : Nat → Int32} {M_plan : Nat → Int32} {M_read : Nat → Int32} {M_readPage : Nat → Int32} {M_page : Nat → Int32} {M_trial : Nat → Int32} {M_book : Nat → Int32} {M_kept : Nat → Int32} {M_isKept : Nat → Int32} {M_seenPoint : Nat → Int32} {M_seenSum : Nat → Int32} {M_seenWas : Nat → Int32} {p1 : Int32} {p2 : Int32} {p3 : Int32} {p4 : Int32} {k3 : Int32 → Option (Int32)} {rr : Int32} (C0 : kC p s m args meth c D (kTY cI cC cZ) cX7_shadeBy (some .int) 5 RX7 A) (hk3 : ∀ (p4_k : Int32), k3 p4_k = some rr → ∀ (H : Heap) (locs : List Loc), va_P D vwCl (WD16 cI cC cZ a_M a_M_text a_M_plan a_M_read a_M_readPage a_M_page a_M_trial a_M_book a_M_kept a_M_isKept a_M_seenPoint a_M_seenSum a_M_seenWas M_thrown M_textSize M_place M_doings M_seen M_seed M_bestSet M_text M_plan M_read M_readPage M_page M_trial M_book M_kept M_isKept M_seenPoint M_seenSum M_seenWas) H → va_D A (WD16 cI cC cZ a_M a_M_text a_M_plan a_M_read a_M_readPage a_M_page a_M_trial a_M_book a_M_kept a_M_isKept a_M_seenPoint a_M_seenSum a_M_seenWas M_thrown M_textSize M_place M_doings M_seen M_seed M_bestSet M_text M_plan M_read M_readPage M_page M_trial M_book M_kept M_isKept M_seenPoint M_seenSum M_seenWas) → va_S A s.heap H locs → ∀ ls : Array Slot, lv_has ls 5 [(0, .ref a_M), (1, .int p1), (2, .int p2), (3, .int p3), (4, .int p4_k)] → W p l e rm_X7_shadeBy s m args below meth c H locs 0 0 (MQ below (kQI D (kTY cI cC cZ) A rr (WD16 cI cC cZ a_M a_M_text a_M_plan a_M_read a_M_readPage a_M_page a_M_trial a_M_book a_M_kept a_M_isKept a_M_seenPoint a_M_seenSum a_M_seenWas M_thrown M_textSize M_place M_doings M_seen M_seed M_bestSet M_text M_plan M_read M_readPage M_page M_trial M_book M_kept M_isKept M_seenPoint M_seenSum M_seenWas)) args s 0 0 A) (F0 m 3 ls [])) (h : bk_X7_shadeBy_3 k3 M_plan p1 p2 p3 p4 = some rr) {H : Heap} {locs : List Loc} (hP : va_P D vwCl (WD16 cI cC cZ a_M a_M_text a_M_plan a_M_read a_M_readPage a_M_page a_M_trial a_M_book a_M_kept a_M_isKept a_M_seenPoint a_M_seenSum a_M_seenWas M_thrown M_textSize M_place M_doings M_seen M_seed M_bestSet M_text M_plan M_read M_readPage M_page M_trial M_book M_kept M_isKept M_seenPoint M_seenSum M_seenWas) H) (hD : va_D A (WD16 cI cC cZ a_M a_M_text a_M_plan a_M_read a_M_readPage a_M_page a_M_trial a_M_book a_M_kept a_M_isKept a_M_seenPoint a_M_seenSum a_M_seenWas M_thrown M_textSize M_place M_doings M_seen M_seed M_bestSet M_text M_plan M_read M_readPage M_page M_trial M_book M_kept M_isKept M_seenPoint M_seenSum M_seenWas)) (hS : va_S A s.heap H locs) {ls : Array Slot} (hl : lv_has ls 5 [(0, .ref a_M), (1, .int p1), (2, .int p2), (3, .int p3), (4, .int p4)]) : W p l e rm_X7_shadeBy s m args below meth c H locs 0 0 (MQ below (kQI D (kTY cI cC cZ) A rr (WD16 cI cC cZ a_M a_M_text a_M_plan a_M_read a_M_readPage a_M_page a_M_trial a_M_book a_M_kept a_M_isKept a_M_seenPoint a_M_seenSum a_M_seenWas M_thrown M_textSize M_place M_doings M_seen M_seed M_bestSet M_text M_plan M_read M_readPage M_page M_trial M_book M_kept M_isKept M_seenPoint M_seenSum M_seenWas)) args s 0 0 A) (F0 m 3 ls []) := by
  obtain ⟨hx, hb, hr, hml, hown, hts, hK, hN, hA, hlocks, hF⟩ := id C0
  unfold bk_X7_shadeBy_3 at h
  refine lv_iload hx hb dX7_shadeBy_3 (lv_at hl 4 rfl) ?_
  refine lv_aload_n hx hb dX7_shadeBy_5 rfl (lv_at hl 0 rfl) ?_
  obtain ⟨r2, hc1, h⟩ := oc_bind h
  refine kro_i (wc := (WD16 cI cC cZ a_M a_M_text a_M_plan a_M_read a_M_readPage a_M_page a_M_trial a_M_book a_M_kept a_M_isKept a_M_seenPoint a_M_seenSum a_M_seenWas M_thrown M_textSize M_place M_doings M_seen M_seed M_bestSet M_text M_plan M_read M_readPage M_page M_trial M_book M_kept M_isKept M_seenPoint M_seenSum M_seenWas)) C0 hP hD hS [0, 1, 2, 3, 4, 5, 6, 7, 8, 9, 10, 11, 12] rfl (kV (n := 0) (As := []) (rest := [.int p4]) (wc := (WD16 cI cC cZ a_M a_M_text a_M_plan a_M_read a_M_readPage a_M_page a_M_trial a_M_book a_M_kept a_M_isKept a_M_seenPoint a_M_seenSum a_M_seenWas M_thrown M_textSize M_place M_doings M_seen M_seed M_bestSet M_text M_plan M_read M_readPage M_page M_trial M_book M_kept M_isKept M_seenPoint M_seenSum M_seenWas)) (C := RX7) C0 hP hD hS [0, 1, 2, 3, 4, 5, 6, 7, 8, 9, 10, 11, 12] rfl (by decide) (c_X7_walls l D cI cC cZ a_M a_M_text a_M_plan a_M_read a_M_readPage a_M_page a_M_trial a_M_book a_M_kept a_M_isKept a_M_seenPoint a_M_seenSum a_M_seenWas H.size M_thrown M_textSize M_place M_doings M_seen M_seed M_bestSet M_text M_plan M_read M_readPage M_page M_trial M_book M_kept M_isKept M_seenPoint M_seenSum M_seenWas  r2 hc1) kw_276 kw_273 kw_274 kw_275 kw_5 (by decide +kernel) (by decide) rfl rfl rfl hl.1 rfl (Nat.le_of_ble_eq_true rfl) ⟨Nat.zero_le _, Nat.zero_le _⟩ dX7_shadeBy_6) (fun H locs hP hS => ?_)
  refine lv_icmp_ge (tgt := 41) hx hb dX7_shadeBy_9 (by decide) (fun c3 => ?_) (fun c3 => ?_)
  · have h := oc_t c3 h
    refine lv_bipush (v := (-9 : Int32)) hx hb dX7_shadeBy_41 (by decide) ?_
    cases h
    exact kret_i C0 hP hD hS rfl dX7_shadeBy_43
  · have h := oc_f c3 h
    refine lv_iload_n hx hb dX7_shadeBy_12 rfl (lv_at hl 3 rfl) ?_
    refine lv_iload hx hb dX7_shadeBy_13 (lv_at hl 4 rfl) ?_
    obtain ⟨r5, hc4, h⟩ := oc_bind h
    refine kro_i (wc := (WD0 cI cC cZ)) C0 hP hD hS [] rfl (kS (n := 2) (As := [.int p3, .int p4]) (rest := []) (wc := (WD0 cI cC cZ)) C0 hP hD hS [] rfl (by decide) (c_X7_has l D cI cC cZ  H.size  p3 p4 r5 hc4) kw_371 kw_369 kw_370 kw_5 (by decide +kernel) (by decide) rfl hl.1 rfl (Nat.le_of_ble_eq_true rfl) ⟨Nat.zero_le _, Nat.zero_le _⟩ dX7_shadeBy_15) (fun H locs hP hS => ?_)
    refine lv_if_eq (tgt := 35) hx hb dX7_shadeBy_18 (by decide) (fun c6 => ?_) (fun c6 => ?_)
    · have h := oc_t c6 h
      obtain ⟨t7, e_t7⟩ : ∃ y : Int32, y = p4 + (1 : Int32) := ⟨_, rfl⟩
      have h := oc_nm e_t7 h
      refine lv_iinc (v := t7) (lv' := [(4, .int t7), (0, .ref a_M), (1, .int p1), (2, .int p2), (3, .int p3)]) hx hb dX7_shadeBy_35 hl (k := 4) rfl (by rw [e_t7]; rfl) (by decide) rfl (fun ls hl => ?_)
      refine lv_goto (tgt := 3) hx hb dX7_shadeBy_38 (by decide) ?_
      exact hk3 _ h _ _ hP hD hS _ (lv_sub hl [1, 2, 3, 4, 0] rfl)
    · have h := oc_f c6 h
      refine lv_aload_n hx hb dX7_shadeBy_21 rfl (lv_at hl 0 rfl) ?_
      refine lv_iload_n hx hb dX7_shadeBy_22 rfl (lv_at hl 1 rfl) ?_
      refine lv_iload_n hx hb dX7_shadeBy_23 rfl (lv_at hl 2 rfl) ?_
      refine lv_iload hx hb dX7_shadeBy_24 (lv_at hl 4 rfl) ?_
      obtain ⟨r9, hc8, h⟩ := oc_bind h
      refine kro_i (wc := (WD16 cI cC cZ a_M a_M_text a_M_plan a_M_read a_M_readPage a_M_page a_M_trial a_M_book a_M_kept a_M_isKept a_M_seenPoint a_M_seenSum a_M_seenWas M_thrown M_textSize M_place M_doings M_seen M_seed M_bestSet M_text M_plan M_read M_readPage M_page M_trial M_book M_kept M_isKept M_seenPoint M_seenSum M_seenWas)) C0 hP hD hS [0, 1, 2, 3, 4, 5, 6, 7, 8, 9, 10, 11, 12] rfl (kV (n := 3) (As := [.int p1, .int p2, .int p4]) (rest := []) (wc := (WD16 cI cC cZ a_M a_M_text a_M_plan a_M_read a_M_readPage a_M_page a_M_trial a_M_book a_M_kept a_M_isKept a_M_seenPoint a_M_seenSum a_M_seenWas M_thrown M_textSize M_place M_doings M_seen M_seed M_bestSet M_text M_plan M_read M_readPage M_page M_trial M_book M_kept M_isKept M_seenPoint M_seenSum M_seenWas)) (C := RX7) C0 hP hD hS [0, 1, 2, 3, 4, 5, 6, 7, 8, 9, 10, 11, 12] rfl (by decide) (c_X7_meets l D cI cC cZ a_M a_M_text a_M_plan a_M_read a_M_readPage a_M_page a_M_trial a_M_book a_M_kept a_M_isKept a_M_seenPoint a_M_seenSum a_M_seenWas H.size M_thrown M_textSize M_place M_doings M_seen M_seed M_bestSet M_text M_plan M_read M_readPage M_page M_trial M_book M_kept M_isKept M_seenPoint M_seenSum M_seenWas p1 p2 p4 r9 hc8) kw_383 kw_380 kw_381 kw_382 kw_5 (by decide +kernel) (by decide) rfl rfl rfl hl.1 rfl (Nat.le_of_ble_eq_true rfl) ⟨Nat.zero_le _, Nat.zero_le _⟩ dX7_shadeBy_26) (fun H locs hP hS => ?_)
      refine lv_if_eq (tgt := 35) hx hb dX7_shadeBy_29 (by decide) (fun c10 => ?_) (fun c10 => ?_)
      · have h := oc_t c10 h
        obtain ⟨t11, e_t11⟩ : ∃ y : Int32, y = p4 + (1 : Int32) := ⟨_, rfl⟩
        have h := oc_nm e_t11 h
        refine lv_iinc (v := t11) (lv' := [(4, .int t11), (0, .ref a_M), (1, .int p1), (2, .int p2), (3, .int p3)]) hx hb dX7_shadeBy_35 hl (k := 4) rfl (by rw [e_t11]; rfl) (by decide) rfl (fun ls hl => ?_)
        refine lv_goto (tgt := 3) hx hb dX7_shadeBy_38 (by decide) ?_
        exact hk3 _ h _ _ hP hD hS _ (lv_sub hl [1, 2, 3, 4, 0] rfl)
      · have h := oc_f c10 h
        refine lv_iload hx hb dX7_shadeBy_32 (lv_at hl 4 rfl) ?_
        cases h
        exact kret_i C0 hP hD hS rfl dX7_shadeBy_34
noncomputable def lp_X7_shadeBy_3  (M_plan : Nat → Int32) (p1 : Int32) (p2 : Int32) (p3 : Int32) (n : Nat) : Int32 → Option (Int32) := Nat.rec (motive := fun _ => Int32 → Option (Int32)) (fun _ => none) (fun _ ih => bk_X7_shadeBy_3  ih M_plan p1 p2 p3) n
set_option maxHeartbeats 4000000 in
set_option maxRecDepth 100000 in
theorem wl_X7_shadeBy_3 {p : Program} {l : Launch} {e : Env} {s : State} {m : MethodId} {args : Array Value} {below : List Frame} {meth : Method} {c : Code} {D : va_G} {cI cC cZ : ClassId} {A : Nat → Prop} {a_M a_M_text a_M_plan a_M_read a_M_readPage a_M_page a_M_trial a_M_book a_M_kept a_M_isKept a_M_seenPoint a_M_seenSum a_M_seenWas : Nat} {M_thrown : Int32} {M_textSize : Int32} {M_place : Int32} {M_doings : Int32} {M_seen : Int32} {M_seed : Int64} {M_bestSet : Int32} {M_text : Nat → Int32} {M_plan : Nat → Int32} {M_read : Nat → Int32} {M_readPage : Nat → Int32} {M_page : Nat → Int32} {M_trial : Nat → Int32} {M_book : Nat → Int32} {M_kept : Nat → Int32} {M_isKept : Nat → Int32} {M_seenPoint : Nat → Int32} {M_seenSum : Nat → Int32} {M_seenWas : Nat → Int32} {p1 : Int32} {p2 : Int32} {p3 : Int32}  {rr : Int32} (C0 : kC p s m args meth c D (kTY cI cC cZ) cX7_shadeBy (some .int) 5 RX7 A)  : ∀ (n : Nat) (p4 : Int32), lp_X7_shadeBy_3  M_plan p1 p2 p3 n p4 = some rr → ∀ (H : Heap) (locs : List Loc), va_P D vwCl (WD16 cI cC cZ a_M a_M_text a_M_plan a_M_read a_M_readPage a_M_page a_M_trial a_M_book a_M_kept a_M_isKept a_M_seenPoint a_M_seenSum a_M_seenWas M_thrown M_textSize M_place M_doings M_seen M_seed M_bestSet M_text M_plan M_read M_readPage M_page M_trial M_book M_kept M_isKept M_seenPoint M_seenSum M_seenWas) H → va_D A (WD16 cI cC cZ a_M a_M_text a_M_plan a_M_read a_M_readPage a_M_page a_M_trial a_M_book a_M_kept a_M_isKept a_M_seenPoint a_M_seenSum a_M_seenWas M_thrown M_textSize M_place M_doings M_seen M_seed M_bestSet M_text M_plan M_read M_readPage M_page M_trial M_book M_kept M_isKept M_seenPoint M_seenSum M_seenWas) → va_S A s.heap H locs → ∀ ls : Array Slot, lv_has ls 5 [(0, .ref a_M), (1, .int p1), (2, .int p2), (3, .int p3), (4, .int p4)] → W p l e rm_X7_shadeBy s m args below meth c H locs 0 0 (MQ below (kQI D (kTY cI cC cZ) A rr (WD16 cI cC cZ a_M a_M_text a_M_plan a_M_read a_M_readPage a_M_page a_M_trial a_M_book a_M_kept a_M_isKept a_M_seenPoint a_M_seenSum a_M_seenWas M_thrown M_textSize M_place M_doings M_seen M_seed M_bestSet M_text M_plan M_read M_readPage M_page M_trial M_book M_kept M_isKept M_seenPoint M_seenSum M_seenWas)) args s 0 0 A) (F0 m 3 ls []) := by
  intro n
  induction n with
  | zero => intro p4 h; cases (show (none : Option (Int32)) = some _ from h)
  | succ n ih =>
    intro p4 h H locs hP hD hS ls hl
    exact wk_X7_shadeBy_3 C0  (fun p4 h H locs hP hD hS ls hl => ih p4 h H locs hP hD hS ls hl) (show bk_X7_shadeBy_3  (lp_X7_shadeBy_3  M_plan p1 p2 p3 n) M_plan p1 p2 p3 p4 = some _ from h) hP hD hS hl
noncomputable def f_X7_shadeBy (M_plan : Nat → Int32) (p1 : Int32) (p2 : Int32) (p3 : Int32) : Option (Int32) := lp_X7_shadeBy_3  M_plan p1 p2 p3 1000 (0 : Int32)
set_option maxHeartbeats 4000000 in
set_option maxRecDepth 100000 in
theorem c_X7_shadeBy (l : Launch) (D : va_G) (cI cC cZ : ClassId) (a_M a_M_text a_M_plan a_M_read a_M_readPage a_M_page a_M_trial a_M_book a_M_kept a_M_isKept a_M_seenPoint a_M_seenSum a_M_seenWas : Nat) (sz : Nat) (M_thrown : Int32) (M_textSize : Int32) (M_place : Int32) (M_doings : Int32) (M_seen : Int32) (M_seed : Int64) (M_bestSet : Int32) (M_text : Nat → Int32) (M_plan : Nat → Int32) (M_read : Nat → Int32) (M_readPage : Nat → Int32) (M_page : Nat → Int32) (M_trial : Nat → Int32) (M_book : Nat → Int32) (M_kept : Nat → Int32) (M_isKept : Nat → Int32) (M_seenPoint : Nat → Int32) (M_seenSum : Nat → Int32) (M_seenWas : Nat → Int32) (p1 : Int32) (p2 : Int32) (p3 : Int32) (rr : Int32) (hf : f_X7_shadeBy M_plan p1 p2 p3 = some rr) : kMet l yX7_shadeBy cX7_shadeBy 5 (some .int) rm_X7_shadeBy D (kTY cI cC cZ) [.ref a_M, .int p1, .int p2, .int p3] (WD16 cI cC cZ a_M a_M_text a_M_plan a_M_read a_M_readPage a_M_page a_M_trial a_M_book a_M_kept a_M_isKept a_M_seenPoint a_M_seenSum a_M_seenWas M_thrown M_textSize M_place M_doings M_seen M_seed M_bestSet M_text M_plan M_read M_readPage M_page M_trial M_book M_kept M_isKept M_seenPoint M_seenSum M_seenWas) sz (kQI D (kTY cI cC cZ) (va_A (WD16 cI cC cZ a_M a_M_text a_M_plan a_M_read a_M_readPage a_M_page a_M_trial a_M_book a_M_kept a_M_isKept a_M_seenPoint a_M_seenSum a_M_seenWas M_thrown M_textSize M_place M_doings M_seen M_seed M_bestSet M_text M_plan M_read M_readPage M_page M_trial M_book M_kept M_isKept M_seenPoint M_seenSum M_seenWas) sz) rr (WD16 cI cC cZ a_M a_M_text a_M_plan a_M_read a_M_readPage a_M_page a_M_trial a_M_book a_M_kept a_M_isKept a_M_seenPoint a_M_seenSum a_M_seenWas M_thrown M_textSize M_place M_doings M_seen M_seed M_bestSet M_text M_plan M_read M_readPage M_page M_trial M_book M_kept M_isKept M_seenPoint M_seenSum M_seenWas)) := by
  refine kEnter (lv := [(0, .ref a_M), (1, .int p1), (2, .int p2), (3, .int p3)]) (own := RX7) (by decide) rfl (Nat.le_of_ble_eq_true rfl) rfl ?_
  intro p e s m below meth c hsz C0 hP hD hS ls hl
  generalize (va_A (WD16 cI cC cZ a_M a_M_text a_M_plan a_M_read a_M_readPage a_M_page a_M_trial a_M_book a_M_kept a_M_isKept a_M_seenPoint a_M_seenSum a_M_seenWas M_thrown M_textSize M_place M_doings M_seen M_seed M_bestSet M_text M_plan M_read M_readPage M_page M_trial M_book M_kept M_isKept M_seenPoint M_seenSum M_seenWas) sz) = A at C0 hD hS ⊢
  clear hsz hS
  obtain ⟨H, hHs⟩ : ∃ H : Heap, H = s.heap := ⟨_, rfl⟩
  have hS : va_S A s.heap H [] := by rw [hHs]; exact va_S.rf
  rw [← hHs] at hP ⊢
  obtain ⟨hx, hb, hr, hml, hown, hts, hK, hN, hA, hlocks, hF⟩ := id C0
  have h := hf
  unfold f_X7_shadeBy at h
  refine lv_iconst (v := (0 : Int32)) hx hb dX7_shadeBy_0 (by decide) ?_
  refine lv_istore (lv' := [(4, .int (0 : Int32)), (0, .ref a_M), (1, .int p1), (2, .int p2), (3, .int p3)]) hx hb dX7_shadeBy_1 hl (by decide) rfl (fun ls hl => ?_)
  exact wl_X7_shadeBy_3 C0  _ _ h _ _ hP hD hS _ (lv_sub hl [1, 2, 3, 4, 0] rfl)
abbrev rm_X7_lightBy : Room := { frames := 5, cells := 0, slots := 0, locals := 130 }
noncomputable def f_X7_lightBy (M_plan : Nat → Int32) (p1 : Int32) (p2 : Int32) (p3 : Int32) : Option (Int32) := if (((14 : Int32) + ((4 : Int32) * p1)) < 0 ∨ 78 ≤ Int32.toNatClampNeg ((14 : Int32) + ((4 : Int32) * p1))) then none else (if (((46 : Int32) + ((2 : Int32) * p2)) < 0 ∨ 78 ≤ Int32.toNatClampNeg ((46 : Int32) + ((2 : Int32) * p2))) then none else (nm_ ((M_plan (Int32.toNatClampNeg ((14 : Int32) + ((4 : Int32) * p1)))) - (M_plan (Int32.toNatClampNeg ((46 : Int32) + ((2 : Int32) * p2))))) (fun t3 => if (((15 : Int32) + ((4 : Int32) * p1)) < 0 ∨ 78 ≤ Int32.toNatClampNeg ((15 : Int32) + ((4 : Int32) * p1))) then none else (if (((47 : Int32) + ((2 : Int32) * p2)) < 0 ∨ 78 ≤ Int32.toNatClampNeg ((47 : Int32) + ((2 : Int32) * p2))) then none else (nm_ ((M_plan (Int32.toNatClampNeg ((15 : Int32) + ((4 : Int32) * p1)))) - (M_plan (Int32.toNatClampNeg ((47 : Int32) + ((2 : Int32) * p2))))) (fun t6 => nm_ ((t3 * t3) + (t6 * t6)) (fun t7 => if (9 : Int32) < t7 then (some (0 : Int32)) else ((f_X7_shadeBy M_plan p1 p2 p3).bind (fun r10 => if r10 = (-9 : Int32) then (if (((16 : Int32) + ((4 : Int32) * p1)) < 0 ∨ 78 ≤ Int32.toNatClampNeg ((16 : Int32) + ((4 : Int32) * p1))) then none else (if (t7 < 0 ∨ 78 ≤ Int32.toNatClampNeg t7) then none else (some ((M_plan (Int32.toNatClampNeg ((16 : Int32) + ((4 : Int32) * p1)))) * (M_plan (Int32.toNatClampNeg t7)))))) else (some (0 : Int32)))))))))))
set_option maxHeartbeats 4000000 in
set_option maxRecDepth 100000 in
theorem c_X7_lightBy (l : Launch) (D : va_G) (cI cC cZ : ClassId) (a_M a_M_text a_M_plan a_M_read a_M_readPage a_M_page a_M_trial a_M_book a_M_kept a_M_isKept a_M_seenPoint a_M_seenSum a_M_seenWas : Nat) (sz : Nat) (M_thrown : Int32) (M_textSize : Int32) (M_place : Int32) (M_doings : Int32) (M_seen : Int32) (M_seed : Int64) (M_bestSet : Int32) (M_text : Nat → Int32) (M_plan : Nat → Int32) (M_read : Nat → Int32) (M_readPage : Nat → Int32) (M_page : Nat → Int32) (M_trial : Nat → Int32) (M_book : Nat → Int32) (M_kept : Nat → Int32) (M_isKept : Nat → Int32) (M_seenPoint : Nat → Int32) (M_seenSum : Nat → Int32) (M_seenWas : Nat → Int32) (p1 : Int32) (p2 : Int32) (p3 : Int32) (rr : Int32) (hf : f_X7_lightBy M_plan p1 p2 p3 = some rr) : kMet l yX7_lightBy cX7_lightBy 7 (some .int) rm_X7_lightBy D (kTY cI cC cZ) [.ref a_M, .int p1, .int p2, .int p3] (WD16 cI cC cZ a_M a_M_text a_M_plan a_M_read a_M_readPage a_M_page a_M_trial a_M_book a_M_kept a_M_isKept a_M_seenPoint a_M_seenSum a_M_seenWas M_thrown M_textSize M_place M_doings M_seen M_seed M_bestSet M_text M_plan M_read M_readPage M_page M_trial M_book M_kept M_isKept M_seenPoint M_seenSum M_seenWas) sz (kQI D (kTY cI cC cZ) (va_A (WD16 cI cC cZ a_M a_M_text a_M_plan a_M_read a_M_readPage a_M_page a_M_trial a_M_book a_M_kept a_M_isKept a_M_seenPoint a_M_seenSum a_M_seenWas M_thrown M_textSize M_place M_doings M_seen M_seed M_bestSet M_text M_plan M_read M_readPage M_page M_trial M_book M_kept M_isKept M_seenPoint M_seenSum M_seenWas) sz) rr (WD16 cI cC cZ a_M a_M_text a_M_plan a_M_read a_M_readPage a_M_page a_M_trial a_M_book a_M_kept a_M_isKept a_M_seenPoint a_M_seenSum a_M_seenWas M_thrown M_textSize M_place M_doings M_seen M_seed M_bestSet M_text M_plan M_read M_readPage M_page M_trial M_book M_kept M_isKept M_seenPoint M_seenSum M_seenWas)) := by
  refine kEnter (lv := [(0, .ref a_M), (1, .int p1), (2, .int p2), (3, .int p3)]) (own := RX7) (by decide) rfl (Nat.le_of_ble_eq_true rfl) rfl ?_
  intro p e s m below meth c hsz C0 hP hD hS ls hl
  generalize (va_A (WD16 cI cC cZ a_M a_M_text a_M_plan a_M_read a_M_readPage a_M_page a_M_trial a_M_book a_M_kept a_M_isKept a_M_seenPoint a_M_seenSum a_M_seenWas M_thrown M_textSize M_place M_doings M_seen M_seed M_bestSet M_text M_plan M_read M_readPage M_page M_trial M_book M_kept M_isKept M_seenPoint M_seenSum M_seenWas) sz) = A at C0 hD hS ⊢
  clear hsz hS
  obtain ⟨H, hHs⟩ : ∃ H : Heap, H = s.heap := ⟨_, rfl⟩
  have hS : va_S A s.heap H [] := by rw [hHs]; exact va_S.rf
  rw [← hHs] at hP ⊢
  obtain ⟨hx, hb, hr, hml, hown, hts, hK, hN, hA, hlocks, hF⟩ := id C0
  have h := hf
  unfold f_X7_lightBy at h
  refine lv_aload_n hx hb dX7_lightBy_0 rfl (lv_at hl 0 rfl) ?_
  refine va_get (D := D) (ci := 7) (v := .ref a_M_plan) (C := RX7) (T := TX7) (N := 19) hx hb hts inlX7 hown hK hP 0 rfl rfl 4 (by decide) (hts _ kw_85) (fun _ h9 => h9) rfl dX7_lightBy_1 ?_
  refine lv_bipush (v := (14 : Int32)) hx hb dX7_lightBy_4 (by decide) ?_
  refine lv_iconst (v := (4 : Int32)) hx hb dX7_lightBy_6 (by decide) ?_
  refine lv_iload_n hx hb dX7_lightBy_7 rfl (lv_at hl 1 rfl) ?_
  refine lv_imul hx hb dX7_lightBy_8 ?_
  refine lv_iadd hx hb dX7_lightBy_9 ?_
  obtain ⟨hb1, h⟩ := oc_else h
  refine va_iald hx hb hK hP 2 0 rfl rfl hb1 dX7_lightBy_10 ?_
  refine lv_aload_n hx hb dX7_lightBy_11 rfl (lv_at hl 0 rfl) ?_
  refine va_get (D := D) (ci := 7) (v := .ref a_M_plan) (C := RX7) (T := TX7) (N := 19) hx hb hts inlX7 hown hK hP 0 rfl rfl 4 (by decide) (hts _ kw_85) (fun _ h9 => h9) rfl dX7_lightBy_12 ?_
  refine lv_bipush (v := (46 : Int32)) hx hb dX7_lightBy_15 (by decide) ?_
  refine lv_iconst (v := (2 : Int32)) hx hb dX7_lightBy_17 (by decide) ?_
  refine lv_iload_n hx hb dX7_lightBy_18 rfl (lv_at hl 2 rfl) ?_
  refine lv_imul hx hb dX7_lightBy_19 ?_
  refine lv_iadd hx hb dX7_lightBy_20 ?_
  obtain ⟨hb2, h⟩ := oc_else h
  refine va_iald hx hb hK hP 2 0 rfl rfl hb2 dX7_lightBy_21 ?_
  refine lv_isub hx hb dX7_lightBy_22 ?_
  refine lv_topi (fun t3 e_t3 => ?_)
  have h := oc_nm e_t3 h
  refine lv_istore (lv' := [(4, .int t3), (0, .ref a_M), (1, .int p1), (2, .int p2), (3, .int p3)]) hx hb dX7_lightBy_23 hl (by decide) rfl (fun ls hl => ?_)
  refine lv_aload_n hx hb dX7_lightBy_25 rfl (lv_at hl 1 rfl) ?_
  refine va_get (D := D) (ci := 7) (v := .ref a_M_plan) (C := RX7) (T := TX7) (N := 19) hx hb hts inlX7 hown hK hP 0 rfl rfl 4 (by decide) (hts _ kw_85) (fun _ h9 => h9) rfl dX7_lightBy_26 ?_
  refine lv_bipush (v := (15 : Int32)) hx hb dX7_lightBy_29 (by decide) ?_
  refine lv_iconst (v := (4 : Int32)) hx hb dX7_lightBy_31 (by decide) ?_
  refine lv_iload_n hx hb dX7_lightBy_32 rfl (lv_at hl 2 rfl) ?_
  refine lv_imul hx hb dX7_lightBy_33 ?_
  refine lv_iadd hx hb dX7_lightBy_34 ?_
  obtain ⟨hb4, h⟩ := oc_else h
  refine va_iald hx hb hK hP 2 0 rfl rfl hb4 dX7_lightBy_35 ?_
  refine lv_aload_n hx hb dX7_lightBy_36 rfl (lv_at hl 1 rfl) ?_
  refine va_get (D := D) (ci := 7) (v := .ref a_M_plan) (C := RX7) (T := TX7) (N := 19) hx hb hts inlX7 hown hK hP 0 rfl rfl 4 (by decide) (hts _ kw_85) (fun _ h9 => h9) rfl dX7_lightBy_37 ?_
  refine lv_bipush (v := (47 : Int32)) hx hb dX7_lightBy_40 (by decide) ?_
  refine lv_iconst (v := (2 : Int32)) hx hb dX7_lightBy_42 (by decide) ?_
  refine lv_iload_n hx hb dX7_lightBy_43 rfl (lv_at hl 3 rfl) ?_
  refine lv_imul hx hb dX7_lightBy_44 ?_
  refine lv_iadd hx hb dX7_lightBy_45 ?_
  obtain ⟨hb5, h⟩ := oc_else h
  refine va_iald hx hb hK hP 2 0 rfl rfl hb5 dX7_lightBy_46 ?_
  refine lv_isub hx hb dX7_lightBy_47 ?_
  refine lv_topi (fun t6 e_t6 => ?_)
  have h := oc_nm e_t6 h
  refine lv_istore (lv' := [(5, .int t6), (4, .int t3), (0, .ref a_M), (1, .int p1), (2, .int p2), (3, .int p3)]) hx hb dX7_lightBy_48 hl (by decide) rfl (fun ls hl => ?_)
  refine lv_iload hx hb dX7_lightBy_50 (lv_at hl 1 rfl) ?_
  refine lv_iload hx hb dX7_lightBy_52 (lv_at hl 1 rfl) ?_
  refine lv_imul hx hb dX7_lightBy_54 ?_
  refine lv_iload hx hb dX7_lightBy_55 (lv_at hl 0 rfl) ?_
  refine lv_iload hx hb dX7_lightBy_57 (lv_at hl 0 rfl) ?_
  refine lv_imul hx hb dX7_lightBy_59 ?_
  refine lv_iadd hx hb dX7_lightBy_60 ?_
  refine lv_topi (fun t7 e_t7 => ?_)
  have h := oc_nm e_t7 h
  refine lv_istore (lv' := [(6, .int t7), (5, .int t6), (4, .int t3), (0, .ref a_M), (1, .int p1), (2, .int p2), (3, .int p3)]) hx hb dX7_lightBy_61 hl (by decide) rfl (fun ls hl => ?_)
  refine lv_iload hx hb dX7_lightBy_63 (lv_at hl 0 rfl) ?_
  refine lv_bipush (v := (9 : Int32)) hx hb dX7_lightBy_65 (by decide) ?_
  refine lv_icmp_gt (tgt := 82) hx hb dX7_lightBy_67 (by decide) (fun c8 => ?_) (fun c8 => ?_)
  · have h := oc_t c8 h
    refine lv_iconst (v := (0 : Int32)) hx hb dX7_lightBy_82 (by decide) ?_
    refine lv_goto (tgt := 105) hx hb dX7_lightBy_83 (by decide) ?_
    cases h
    exact kret_i C0 hP hD hS rfl dX7_lightBy_105
  · have h := oc_f c8 h
    refine lv_aload_n hx hb dX7_lightBy_70 rfl (lv_at hl 3 rfl) ?_
    refine lv_iload_n hx hb dX7_lightBy_71 rfl (lv_at hl 4 rfl) ?_
    refine lv_iload_n hx hb dX7_lightBy_72 rfl (lv_at hl 5 rfl) ?_
    refine lv_iload_n hx hb dX7_lightBy_73 rfl (lv_at hl 6 rfl) ?_
    obtain ⟨r10, hc9, h⟩ := oc_bind h
    refine kro_i (wc := (WD16 cI cC cZ a_M a_M_text a_M_plan a_M_read a_M_readPage a_M_page a_M_trial a_M_book a_M_kept a_M_isKept a_M_seenPoint a_M_seenSum a_M_seenWas M_thrown M_textSize M_place M_doings M_seen M_seed M_bestSet M_text M_plan M_read M_readPage M_page M_trial M_book M_kept M_isKept M_seenPoint M_seenSum M_seenWas)) C0 hP hD hS [0, 1, 2, 3, 4, 5, 6, 7, 8, 9, 10, 11, 12] rfl (kV (n := 3) (As := [.int p1, .int p2, .int p3]) (rest := []) (wc := (WD16 cI cC cZ a_M a_M_text a_M_plan a_M_read a_M_readPage a_M_page a_M_trial a_M_book a_M_kept a_M_isKept a_M_seenPoint a_M_seenSum a_M_seenWas M_thrown M_textSize M_place M_doings M_seen M_seed M_bestSet M_text M_plan M_read M_readPage M_page M_trial M_book M_kept M_isKept M_seenPoint M_seenSum M_seenWas)) (C := RX7) C0 hP hD hS [0, 1, 2, 3, 4, 5, 6, 7, 8, 9, 10, 11, 12] rfl (by decide) (c_X7_shadeBy l D cI cC cZ a_M a_M_text a_M_plan a_M_read a_M_readPage a_M_page a_M_trial a_M_book a_M_kept a_M_isKept a_M_seenPoint a_M_seenSum a_M_seenWas H.size M_thrown M_textSize M_place M_doings M_seen M_seed M_bestSet M_text M_plan M_read M_readPage M_page M_trial M_book M_kept M_isKept M_seenPoint M_seenSum M_seenWas p1 p2 p3 r10 hc9) kw_379 kw_376 kw_377 kw_378 kw_5 (by decide +kernel) (by decide) rfl rfl rfl hl.1 rfl (Nat.le_of_ble_eq_true rfl) ⟨Nat.zero_le _, Nat.zero_le _⟩ dX7_lightBy_74) (fun H locs hP hS => ?_)
    refine lv_bipush (v := (-9 : Int32)) hx hb dX7_lightBy_77 (by decide) ?_
    refine lv_icmp_eq (tgt := 86) hx hb dX7_lightBy_79 (by decide) (fun c11 => ?_) (fun c11 => ?_)
    · have h := oc_t c11 h
      refine lv_aload_n hx hb dX7_lightBy_86 rfl (lv_at hl 3 rfl) ?_
      refine va_get (D := D) (ci := 7) (v := .ref a_M_plan) (C := RX7) (T := TX7) (N := 19) hx hb hts inlX7 hown hK hP 0 rfl rfl 4 (by decide) (hts _ kw_85) (fun _ h9 => h9) rfl dX7_lightBy_87 ?_
      refine lv_bipush (v := (16 : Int32)) hx hb dX7_lightBy_90 (by decide) ?_
      refine lv_iconst (v := (4 : Int32)) hx hb dX7_lightBy_92 (by decide) ?_
      refine lv_iload_n hx hb dX7_lightBy_93 rfl (lv_at hl 4 rfl) ?_
      refine lv_imul hx hb dX7_lightBy_94 ?_
      refine lv_iadd hx hb dX7_lightBy_95 ?_
      obtain ⟨hb12, h⟩ := oc_else h
      refine va_iald hx hb hK hP 2 0 rfl rfl hb12 dX7_lightBy_96 ?_
      refine lv_aload_n hx hb dX7_lightBy_97 rfl (lv_at hl 3 rfl) ?_
      refine va_get (D := D) (ci := 7) (v := .ref a_M_plan) (C := RX7) (T := TX7) (N := 19) hx hb hts inlX7 hown hK hP 0 rfl rfl 4 (by decide) (hts _ kw_85) (fun _ h9 => h9) rfl dX7_lightBy_98 ?_
      refine lv_iload hx hb dX7_lightBy_101 (lv_at hl 0 rfl) ?_
      obtain ⟨hb13, h⟩ := oc_else h
      refine va_iald hx hb hK hP 2 0 rfl rfl hb13 dX7_lightBy_103 ?_
      refine lv_imul hx hb dX7_lightBy_104 ?_
      cases h
      exact kret_i C0 hP hD hS rfl dX7_lightBy_105
    · have h := oc_f c11 h
      refine lv_iconst (v := (0 : Int32)) hx hb dX7_lightBy_82 (by decide) ?_
      refine lv_goto (tgt := 105) hx hb dX7_lightBy_83 (by decide) ?_
      cases h
      exact kret_i C0 hP hD hS rfl dX7_lightBy_105
abbrev rm_X7_sumBy : Room := { frames := 6, cells := 0, slots := 0, locals := 156 }
noncomputable def bk_X7_sumBy_12 (k12 : Int32 → Int32 → Option (Int32)) (M_plan : Nat → Int32) (p1 : Int32) (p2 : Int32) (p3 : Int32) (p4 : Int32) (p5 : Int32) : Option (Int32) := (f_X7_spots M_plan).bind (fun r2 => if r2 ≤ p5 then (some p4) else ((f_X7_has p2 p5).bind (fun r5 => if r5 = 0 then (nm_ (p4 + (0 : Int32)) (fun t7 => nm_ (p5 + (1 : Int32)) (fun t8 => k12 t7 t8))) else ((f_X7_lightBy M_plan p5 p1 p3).bind (fun r10 => nm_ (p4 + r10) (fun t11 => nm_ (p5 + (1 : Int32)) (fun t12 => k12 t11 t12)))))))
set_option maxHeartbeats 4000000 in
set_option maxRecDepth 100000 in
theorem wk_X7_sumBy_12 {p : Program} {l : Launch} {e : Env} {s : State} {m : MethodId} {args : Array Value} {below : List Frame} {meth : Method} {c : Code} {D : va_G} {cI cC cZ : ClassId} {A : Nat → Prop} {a_M a_M_text a_M_plan a_M_read a_M_readPage a_M_page a_M_trial a_M_book a_M_kept a_M_isKept a_M_seenPoint a_M_seenSum a_M_seenWas : Nat} {M_thrown : Int32} {M_textSize : Int32} {M_place : Int32} {M_doings : Int32} {M_seen : Int32} {M_seed : Int64} {M_bestSet : Int32} {M_text : Nat → Int32} {M_plan : Nat → Int32} {M_read : Nat → Int32} {M_readPage : Nat → Int32} {M_page : Nat → Int32} {M_trial : Nat → Int32} {M_book : Nat → Int32} {M_kept : Nat → Int32} {M_isKept : Nat → Int32} {M_seenPoint : Nat → Int32} {M_seenSum : Nat → Int32} {M_seenWas : Nat → Int32} {p1 : Int32} {p2 : Int32} {p3 : Int32} {p4 : Int32} {p5 : Int32} {k12 : Int32 → Int32 → Option (Int32)} {rr : Int32} (C0 : kC p s m args meth c D (kTY cI cC cZ) cX7_sumBy (some .int) 6 RX7 A) (hk12 : ∀ (p4_k : Int32) (p5_k : Int32), k12 p4_k p5_k = some rr → ∀ (H : Heap) (locs : List Loc), va_P D vwCl (WD16 cI cC cZ a_M a_M_text a_M_plan a_M_read a_M_readPage a_M_page a_M_trial a_M_book a_M_kept a_M_isKept a_M_seenPoint a_M_seenSum a_M_seenWas M_thrown M_textSize M_place M_doings M_seen M_seed M_bestSet M_text M_plan M_read M_readPage M_page M_trial M_book M_kept M_isKept M_seenPoint M_seenSum M_seenWas) H → va_D A (WD16 cI cC cZ a_M a_M_text a_M_plan a_M_read a_M_readPage a_M_page a_M_trial a_M_book a_M_kept a_M_isKept a_M_seenPoint a_M_seenSum a_M_seenWas M_thrown M_textSize M_place M_doings M_seen M_seed M_bestSet M_text M_plan M_read M_readPage M_page M_trial M_book M_kept M_isKept M_seenPoint M_seenSum M_seenWas) → va_S A s.heap H locs → ∀ ls : Array Slot, lv_has ls 6 [(0, .ref a_M), (1, .int p1), (2, .int p2), (3, .int p3), (4, .int p4_k), (5, .int p5_k)] → W p l e rm_X7_sumBy s m args below meth c H locs 0 0 (MQ below (kQI D (kTY cI cC cZ) A rr (WD16 cI cC cZ a_M a_M_text a_M_plan a_M_read a_M_readPage a_M_page a_M_trial a_M_book a_M_kept a_M_isKept a_M_seenPoint a_M_seenSum a_M_seenWas M_thrown M_textSize M_place M_doings M_seen M_seed M_bestSet M_text M_plan M_read M_readPage M_page M_trial M_book M_kept M_isKept M_seenPoint M_seenSum M_seenWas)) args s 0 0 A) (F0 m 12 ls [])) (h : bk_X7_sumBy_12 k12 M_plan p1 p2 p3 p4 p5 = some rr) {H : Heap} {locs : List Loc} (hP : va_P D vwCl (WD16 cI cC cZ a_M a_M_text a_M_plan a_M_read a_M_readPage a_M_page a_M_trial a_M_book a_M_kept a_M_isKept a_M_seenPoint a_M_seenSum a_M_seenWas M_thrown M_textSize M_place M_doings M_seen M_seed M_bestSet M_text M_plan M_read M_readPage M_page M_trial M_book M_kept M_isKept M_seenPoint M_seenSum M_seenWas) H) (hD : va_D A (WD16 cI cC cZ a_M a_M_text a_M_plan a_M_read a_M_readPage a_M_page a_M_trial a_M_book a_M_kept a_M_isKept a_M_seenPoint a_M_seenSum a_M_seenWas M_thrown M_textSize M_place M_doings M_seen M_seed M_bestSet M_text M_plan M_read M_readPage M_page M_trial M_book M_kept M_isKept M_seenPoint M_seenSum M_seenWas)) (hS : va_S A s.heap H locs) {ls : Array Slot} (hl : lv_has ls 6 [(0, .ref a_M), (1, .int p1), (2, .int p2), (3, .int p3), (4, .int p4), (5, .int p5)]) : W p l e rm_X7_sumBy s m args below meth c H locs 0 0 (MQ below (kQI D (kTY cI cC cZ) A rr (WD16 cI cC cZ a_M a_M_text a_M_plan a_M_read a_M_readPage a_M_page a_M_trial a_M_book a_M_kept a_M_isKept a_M_seenPoint a_M_seenSum a_M_seenWas M_thrown M_textSize M_place M_doings M_seen M_seed M_bestSet M_text M_plan M_read M_readPage M_page M_trial M_book M_kept M_isKept M_seenPoint M_seenSum M_seenWas)) args s 0 0 A) (F0 m 12 ls []) := by
  obtain ⟨hx, hb, hr, hml, hown, hts, hK, hN, hA, hlocks, hF⟩ := id C0
  unfold bk_X7_sumBy_12 at h
  refine lv_iload hx hb dX7_sumBy_12 (lv_at hl 5 rfl) ?_
  refine lv_aload_n hx hb dX7_sumBy_14 rfl (lv_at hl 0 rfl) ?_
  obtain ⟨r2, hc1, h⟩ := oc_bind h
  refine kro_i (wc := (WD16 cI cC cZ a_M a_M_text a_M_plan a_M_read a_M_readPage a_M_page a_M_trial a_M_book a_M_kept a_M_isKept a_M_seenPoint a_M_seenSum a_M_seenWas M_thrown M_textSize M_place M_doings M_seen M_seed M_bestSet M_text M_plan M_read M_readPage M_page M_trial M_book M_kept M_isKept M_seenPoint M_seenSum M_seenWas)) C0 hP hD hS [0, 1, 2, 3, 4, 5, 6, 7, 8, 9, 10, 11, 12] rfl (kV (n := 0) (As := []) (rest := [.int p5]) (wc := (WD16 cI cC cZ a_M a_M_text a_M_plan a_M_read a_M_readPage a_M_page a_M_trial a_M_book a_M_kept a_M_isKept a_M_seenPoint a_M_seenSum a_M_seenWas M_thrown M_textSize M_place M_doings M_seen M_seed M_bestSet M_text M_plan M_read M_readPage M_page M_trial M_book M_kept M_isKept M_seenPoint M_seenSum M_seenWas)) (C := RX7) C0 hP hD hS [0, 1, 2, 3, 4, 5, 6, 7, 8, 9, 10, 11, 12] rfl (by decide) (c_X7_spots l D cI cC cZ a_M a_M_text a_M_plan a_M_read a_M_readPage a_M_page a_M_trial a_M_book a_M_kept a_M_isKept a_M_seenPoint a_M_seenSum a_M_seenWas H.size M_thrown M_textSize M_place M_doings M_seen M_seed M_bestSet M_text M_plan M_read M_readPage M_page M_trial M_book M_kept M_isKept M_seenPoint M_seenSum M_seenWas  r2 hc1) kw_280 kw_277 kw_278 kw_279 kw_5 (by decide +kernel) (by decide) rfl rfl rfl hl.1 rfl (Nat.le_of_ble_eq_true rfl) ⟨Nat.zero_le _, Nat.zero_le _⟩ dX7_sumBy_15) (fun H locs hP hS => ?_)
  refine lv_icmp_ge (tgt := 53) hx hb dX7_sumBy_18 (by decide) (fun c3 => ?_) (fun c3 => ?_)
  · have h := oc_t c3 h
    refine lv_iload hx hb dX7_sumBy_53 (lv_at hl 4 rfl) ?_
    cases h
    exact kret_i C0 hP hD hS rfl dX7_sumBy_55
  · have h := oc_f c3 h
    refine lv_iload hx hb dX7_sumBy_21 (lv_at hl 4 rfl) ?_
    refine lv_iload_n hx hb dX7_sumBy_23 rfl (lv_at hl 2 rfl) ?_
    refine lv_iload hx hb dX7_sumBy_24 (lv_at hl 5 rfl) ?_
    obtain ⟨r5, hc4, h⟩ := oc_bind h
    refine kro_i (wc := (WD0 cI cC cZ)) C0 hP hD hS [] rfl (kS (n := 2) (As := [.int p2, .int p5]) (rest := [.int p4]) (wc := (WD0 cI cC cZ)) C0 hP hD hS [] rfl (by decide) (c_X7_has l D cI cC cZ  H.size  p2 p5 r5 hc4) kw_371 kw_369 kw_370 kw_5 (by decide +kernel) (by decide) rfl hl.1 rfl (Nat.le_of_ble_eq_true rfl) ⟨Nat.zero_le _, Nat.zero_le _⟩ dX7_sumBy_26) (fun H locs hP hS => ?_)
    refine lv_if_eq (tgt := 43) hx hb dX7_sumBy_29 (by decide) (fun c6 => ?_) (fun c6 => ?_)
    · have h := oc_t c6 h
      refine lv_iconst (v := (0 : Int32)) hx hb dX7_sumBy_43 (by decide) ?_
      refine lv_iadd hx hb dX7_sumBy_44 ?_
      refine lv_topi (fun t7 e_t7 => ?_)
      have h := oc_nm e_t7 h
      refine lv_istore (lv' := [(4, .int t7), (0, .ref a_M), (1, .int p1), (2, .int p2), (3, .int p3), (5, .int p5)]) hx hb dX7_sumBy_45 hl (by decide) rfl (fun ls hl => ?_)
      obtain ⟨t8, e_t8⟩ : ∃ y : Int32, y = p5 + (1 : Int32) := ⟨_, rfl⟩
      have h := oc_nm e_t8 h
      refine lv_iinc (v := t8) (lv' := [(5, .int t8), (4, .int t7), (0, .ref a_M), (1, .int p1), (2, .int p2), (3, .int p3)]) hx hb dX7_sumBy_47 hl (k := 5) rfl (by rw [e_t8]; rfl) (by decide) rfl (fun ls hl => ?_)
      refine lv_goto (tgt := 12) hx hb dX7_sumBy_50 (by decide) ?_
      exact hk12 _ _ h _ _ hP hD hS _ (lv_sub hl [2, 3, 4, 5, 1, 0] rfl)
    · have h := oc_f c6 h
      refine lv_aload_n hx hb dX7_sumBy_32 rfl (lv_at hl 0 rfl) ?_
      refine lv_iload hx hb dX7_sumBy_33 (lv_at hl 5 rfl) ?_
      refine lv_iload_n hx hb dX7_sumBy_35 rfl (lv_at hl 1 rfl) ?_
      refine lv_iload_n hx hb dX7_sumBy_36 rfl (lv_at hl 3 rfl) ?_
      obtain ⟨r10, hc9, h⟩ := oc_bind h
      refine kro_i (wc := (WD16 cI cC cZ a_M a_M_text a_M_plan a_M_read a_M_readPage a_M_page a_M_trial a_M_book a_M_kept a_M_isKept a_M_seenPoint a_M_seenSum a_M_seenWas M_thrown M_textSize M_place M_doings M_seen M_seed M_bestSet M_text M_plan M_read M_readPage M_page M_trial M_book M_kept M_isKept M_seenPoint M_seenSum M_seenWas)) C0 hP hD hS [0, 1, 2, 3, 4, 5, 6, 7, 8, 9, 10, 11, 12] rfl (kV (n := 3) (As := [.int p5, .int p1, .int p3]) (rest := [.int p4]) (wc := (WD16 cI cC cZ a_M a_M_text a_M_plan a_M_read a_M_readPage a_M_page a_M_trial a_M_book a_M_kept a_M_isKept a_M_seenPoint a_M_seenSum a_M_seenWas M_thrown M_textSize M_place M_doings M_seen M_seed M_bestSet M_text M_plan M_read M_readPage M_page M_trial M_book M_kept M_isKept M_seenPoint M_seenSum M_seenWas)) (C := RX7) C0 hP hD hS [0, 1, 2, 3, 4, 5, 6, 7, 8, 9, 10, 11, 12] rfl (by decide) (c_X7_lightBy l D cI cC cZ a_M a_M_text a_M_plan a_M_read a_M_readPage a_M_page a_M_trial a_M_book a_M_kept a_M_isKept a_M_seenPoint a_M_seenSum a_M_seenWas H.size M_thrown M_textSize M_place M_doings M_seen M_seed M_bestSet M_text M_plan M_read M_readPage M_page M_trial M_book M_kept M_isKept M_seenPoint M_seenSum M_seenWas p5 p1 p3 r10 hc9) kw_375 kw_372 kw_373 kw_374 kw_5 (by decide +kernel) (by decide) rfl rfl rfl hl.1 rfl (Nat.le_of_ble_eq_true rfl) ⟨Nat.zero_le _, Nat.zero_le _⟩ dX7_sumBy_37) (fun H locs hP hS => ?_)
      refine lv_goto (tgt := 44) hx hb dX7_sumBy_40 (by decide) ?_
      refine lv_iadd hx hb dX7_sumBy_44 ?_
      refine lv_topi (fun t11 e_t11 => ?_)
      have h := oc_nm e_t11 h
      refine lv_istore (lv' := [(4, .int t11), (0, .ref a_M), (1, .int p1), (2, .int p2), (3, .int p3), (5, .int p5)]) hx hb dX7_sumBy_45 hl (by decide) rfl (fun ls hl => ?_)
      obtain ⟨t12, e_t12⟩ : ∃ y : Int32, y = p5 + (1 : Int32) := ⟨_, rfl⟩
      have h := oc_nm e_t12 h
      refine lv_iinc (v := t12) (lv' := [(5, .int t12), (4, .int t11), (0, .ref a_M), (1, .int p1), (2, .int p2), (3, .int p3)]) hx hb dX7_sumBy_47 hl (k := 5) rfl (by rw [e_t12]; rfl) (by decide) rfl (fun ls hl => ?_)
      refine lv_goto (tgt := 12) hx hb dX7_sumBy_50 (by decide) ?_
      exact hk12 _ _ h _ _ hP hD hS _ (lv_sub hl [2, 3, 4, 5, 1, 0] rfl)
noncomputable def lp_X7_sumBy_12  (M_plan : Nat → Int32) (p1 : Int32) (p2 : Int32) (p3 : Int32) (n : Nat) : Int32 → Int32 → Option (Int32) := Nat.rec (motive := fun _ => Int32 → Int32 → Option (Int32)) (fun _ _ => none) (fun _ ih => bk_X7_sumBy_12  ih M_plan p1 p2 p3) n
set_option maxHeartbeats 4000000 in
set_option maxRecDepth 100000 in
theorem wl_X7_sumBy_12 {p : Program} {l : Launch} {e : Env} {s : State} {m : MethodId} {args : Array Value} {below : List Frame} {meth : Method} {c : Code} {D : va_G} {cI cC cZ : ClassId} {A : Nat → Prop} {a_M a_M_text a_M_plan a_M_read a_M_readPage a_M_page a_M_trial a_M_book a_M_kept a_M_isKept a_M_seenPoint a_M_seenSum a_M_seenWas : Nat} {M_thrown : Int32} {M_textSize : Int32} {M_place : Int32} {M_doings : Int32} {M_seen : Int32} {M_seed : Int64} {M_bestSet : Int32} {M_text : Nat → Int32} {M_plan : Nat → Int32} {M_read : Nat → Int32} {M_readPage : Nat → Int32} {M_page : Nat → Int32} {M_trial : Nat → Int32} {M_book : Nat → Int32} {M_kept : Nat → Int32} {M_isKept : Nat → Int32} {M_seenPoint : Nat → Int32} {M_seenSum : Nat → Int32} {M_seenWas : Nat → Int32} {p1 : Int32} {p2 : Int32} {p3 : Int32}  {rr : Int32} (C0 : kC p s m args meth c D (kTY cI cC cZ) cX7_sumBy (some .int) 6 RX7 A)  : ∀ (n : Nat) (p4 : Int32) (p5 : Int32), lp_X7_sumBy_12  M_plan p1 p2 p3 n p4 p5 = some rr → ∀ (H : Heap) (locs : List Loc), va_P D vwCl (WD16 cI cC cZ a_M a_M_text a_M_plan a_M_read a_M_readPage a_M_page a_M_trial a_M_book a_M_kept a_M_isKept a_M_seenPoint a_M_seenSum a_M_seenWas M_thrown M_textSize M_place M_doings M_seen M_seed M_bestSet M_text M_plan M_read M_readPage M_page M_trial M_book M_kept M_isKept M_seenPoint M_seenSum M_seenWas) H → va_D A (WD16 cI cC cZ a_M a_M_text a_M_plan a_M_read a_M_readPage a_M_page a_M_trial a_M_book a_M_kept a_M_isKept a_M_seenPoint a_M_seenSum a_M_seenWas M_thrown M_textSize M_place M_doings M_seen M_seed M_bestSet M_text M_plan M_read M_readPage M_page M_trial M_book M_kept M_isKept M_seenPoint M_seenSum M_seenWas) → va_S A s.heap H locs → ∀ ls : Array Slot, lv_has ls 6 [(0, .ref a_M), (1, .int p1), (2, .int p2), (3, .int p3), (4, .int p4), (5, .int p5)] → W p l e rm_X7_sumBy s m args below meth c H locs 0 0 (MQ below (kQI D (kTY cI cC cZ) A rr (WD16 cI cC cZ a_M a_M_text a_M_plan a_M_read a_M_readPage a_M_page a_M_trial a_M_book a_M_kept a_M_isKept a_M_seenPoint a_M_seenSum a_M_seenWas M_thrown M_textSize M_place M_doings M_seen M_seed M_bestSet M_text M_plan M_read M_readPage M_page M_trial M_book M_kept M_isKept M_seenPoint M_seenSum M_seenWas)) args s 0 0 A) (F0 m 12 ls []) := by
  intro n
  induction n with
  | zero => intro p4 p5 h; cases (show (none : Option (Int32)) = some _ from h)
  | succ n ih =>
    intro p4 p5 h H locs hP hD hS ls hl
    exact wk_X7_sumBy_12 C0  (fun p4 p5 h H locs hP hD hS ls hl => ih p4 p5 h H locs hP hD hS ls hl) (show bk_X7_sumBy_12  (lp_X7_sumBy_12  M_plan p1 p2 p3 n) M_plan p1 p2 p3 p4 p5 = some _ from h) hP hD hS hl
noncomputable def f_X7_sumBy (M_plan : Nat → Int32) (p1 : Int32) (p2 : Int32) (p3 : Int32) : Option (Int32) := nm_ (M_plan (Int32.toNatClampNeg (10 : Int32))) (fun t1 => lp_X7_sumBy_12  M_plan p1 p2 p3 1000 t1 (0 : Int32))
set_option maxHeartbeats 4000000 in
set_option maxRecDepth 100000 in
theorem c_X7_sumBy (l : Launch) (D : va_G) (cI cC cZ : ClassId) (a_M a_M_text a_M_plan a_M_read a_M_readPage a_M_page a_M_trial a_M_book a_M_kept a_M_isKept a_M_seenPoint a_M_seenSum a_M_seenWas : Nat) (sz : Nat) (M_thrown : Int32) (M_textSize : Int32) (M_place : Int32) (M_doings : Int32) (M_seen : Int32) (M_seed : Int64) (M_bestSet : Int32) (M_text : Nat → Int32) (M_plan : Nat → Int32) (M_read : Nat → Int32) (M_readPage : Nat → Int32) (M_page : Nat → Int32) (M_trial : Nat → Int32) (M_book : Nat → Int32) (M_kept : Nat → Int32) (M_isKept : Nat → Int32) (M_seenPoint : Nat → Int32) (M_seenSum : Nat → Int32) (M_seenWas : Nat → Int32) (p1 : Int32) (p2 : Int32) (p3 : Int32) (rr : Int32) (hf : f_X7_sumBy M_plan p1 p2 p3 = some rr) : kMet l yX7_sumBy cX7_sumBy 6 (some .int) rm_X7_sumBy D (kTY cI cC cZ) [.ref a_M, .int p1, .int p2, .int p3] (WD16 cI cC cZ a_M a_M_text a_M_plan a_M_read a_M_readPage a_M_page a_M_trial a_M_book a_M_kept a_M_isKept a_M_seenPoint a_M_seenSum a_M_seenWas M_thrown M_textSize M_place M_doings M_seen M_seed M_bestSet M_text M_plan M_read M_readPage M_page M_trial M_book M_kept M_isKept M_seenPoint M_seenSum M_seenWas) sz (kQI D (kTY cI cC cZ) (va_A (WD16 cI cC cZ a_M a_M_text a_M_plan a_M_read a_M_readPage a_M_page a_M_trial a_M_book a_M_kept a_M_isKept a_M_seenPoint a_M_seenSum a_M_seenWas M_thrown M_textSize M_place M_doings M_seen M_seed M_bestSet M_text M_plan M_read M_readPage M_page M_trial M_book M_kept M_isKept M_seenPoint M_seenSum M_seenWas) sz) rr (WD16 cI cC cZ a_M a_M_text a_M_plan a_M_read a_M_readPage a_M_page a_M_trial a_M_book a_M_kept a_M_isKept a_M_seenPoint a_M_seenSum a_M_seenWas M_thrown M_textSize M_place M_doings M_seen M_seed M_bestSet M_text M_plan M_read M_readPage M_page M_trial M_book M_kept M_isKept M_seenPoint M_seenSum M_seenWas)) := by
  refine kEnter (lv := [(0, .ref a_M), (1, .int p1), (2, .int p2), (3, .int p3)]) (own := RX7) (by decide) rfl (Nat.le_of_ble_eq_true rfl) rfl ?_
  intro p e s m below meth c hsz C0 hP hD hS ls hl
  generalize (va_A (WD16 cI cC cZ a_M a_M_text a_M_plan a_M_read a_M_readPage a_M_page a_M_trial a_M_book a_M_kept a_M_isKept a_M_seenPoint a_M_seenSum a_M_seenWas M_thrown M_textSize M_place M_doings M_seen M_seed M_bestSet M_text M_plan M_read M_readPage M_page M_trial M_book M_kept M_isKept M_seenPoint M_seenSum M_seenWas) sz) = A at C0 hD hS ⊢
  clear hsz hS
  obtain ⟨H, hHs⟩ : ∃ H : Heap, H = s.heap := ⟨_, rfl⟩
  have hS : va_S A s.heap H [] := by rw [hHs]; exact va_S.rf
  rw [← hHs] at hP ⊢
  obtain ⟨hx, hb, hr, hml, hown, hts, hK, hN, hA, hlocks, hF⟩ := id C0
  have h := hf
  unfold f_X7_sumBy at h
  refine lv_aload_n hx hb dX7_sumBy_0 rfl (lv_at hl 0 rfl) ?_
  refine va_get (D := D) (ci := 7) (v := .ref a_M_plan) (C := RX7) (T := TX7) (N := 19) hx hb hts inlX7 hown hK hP 0 rfl rfl 4 (by decide) (hts _ kw_85) (fun _ h9 => h9) rfl dX7_sumBy_1 ?_
  refine lv_bipush (v := (10 : Int32)) hx hb dX7_sumBy_4 (by decide) ?_
  refine va_iald hx hb hK hP 2 0 rfl rfl (show ¬ ((10 : Int32) < 0 ∨ 78 ≤ Int32.toNatClampNeg (10 : Int32)) by decide) dX7_sumBy_6 ?_
  refine lv_topi (fun t1 e_t1 => ?_)
  have h := oc_nm e_t1 h
  refine lv_istore (lv' := [(4, .int t1), (0, .ref a_M), (1, .int p1), (2, .int p2), (3, .int p3)]) hx hb dX7_sumBy_7 hl (by decide) rfl (fun ls hl => ?_)
  refine lv_iconst (v := (0 : Int32)) hx hb dX7_sumBy_9 (by decide) ?_
  refine lv_istore (lv' := [(5, .int (0 : Int32)), (4, .int t1), (0, .ref a_M), (1, .int p1), (2, .int p2), (3, .int p3)]) hx hb dX7_sumBy_10 hl (by decide) rfl (fun ls hl => ?_)
  exact wl_X7_sumBy_12 C0  _ _ _ h _ _ hP hD hS _ (lv_sub hl [2, 3, 4, 5, 1, 0] rfl)
abbrev WD17 (cI cC cZ : ClassId) (a_U : Nat) (U : Nat → Int32) : va_W := [(a_U, .inl (cI, 9, .inl U))]
abbrev rm_X7_live : Room := { frames := 0, cells := 0, slots := 0, locals := 0 }
noncomputable def f_X7_live (U : Nat → Int32)  : Option (Int32) := some ((U (Int32.toNatClampNeg (0 : Int32))) &&& ((U (Int32.toNatClampNeg (1 : Int32))) ^^^ (-1 : Int32)))
set_option maxHeartbeats 4000000 in
set_option maxRecDepth 100000 in
theorem c_X7_live (l : Launch) (D : va_G) (cI cC cZ : ClassId) (a_U : Nat) (sz : Nat) (U : Nat → Int32) (rr : Int32) (hf : f_X7_live U = some rr) : kMet l yX7_live cX7_live 1 (some .int) rm_X7_live D (kTY cI cC cZ) [.ref a_U] (WD17 cI cC cZ a_U U) sz (kQI D (kTY cI cC cZ) (va_A (WD17 cI cC cZ a_U U) sz) rr (WD17 cI cC cZ a_U U)) := by
  refine kEnter (lv := [(0, .ref a_U)]) (own := RX7) (by decide) rfl (Nat.le_of_ble_eq_true rfl) rfl ?_
  intro p e s m below meth c hsz C0 hP hD hS ls hl
  generalize (va_A (WD17 cI cC cZ a_U U) sz) = A at C0 hD hS ⊢
  clear hsz hS
  obtain ⟨H, hHs⟩ : ∃ H : Heap, H = s.heap := ⟨_, rfl⟩
  have hS : va_S A s.heap H [] := by rw [hHs]; exact va_S.rf
  rw [← hHs] at hP ⊢
  obtain ⟨hx, hb, hr, hml, hown, hts, hK, hN, hA, hlocks, hF⟩ := id C0
  have h := hf
  unfold f_X7_live at h
  refine lv_aload_n hx hb dX7_live_0 rfl (lv_at hl 0 rfl) ?_
  refine lv_iconst (v := (0 : Int32)) hx hb dX7_live_1 (by decide) ?_
  refine va_iald hx hb hK hP 0 0 rfl rfl (show ¬ ((0 : Int32) < 0 ∨ 9 ≤ Int32.toNatClampNeg (0 : Int32)) by decide) dX7_live_2 ?_
  refine lv_aload_n hx hb dX7_live_3 rfl (lv_at hl 0 rfl) ?_
  refine lv_iconst (v := (1 : Int32)) hx hb dX7_live_4 (by decide) ?_
  refine va_iald hx hb hK hP 0 0 rfl rfl (show ¬ ((1 : Int32) < 0 ∨ 9 ≤ Int32.toNatClampNeg (1 : Int32)) by decide) dX7_live_5 ?_
  refine lv_iconst (v := (-1 : Int32)) hx hb dX7_live_6 (by decide) ?_
  refine lv_ixor hx hb dX7_live_7 ?_
  refine lv_iand hx hb dX7_live_8 ?_
  cases h
  exact kret_i C0 hP hD hS rfl dX7_live_9
abbrev rm_X7_sumsBy : Room := { frames := 7, cells := 0, slots := 0, locals := 181 }
noncomputable def bk_X7_sumsBy_5 (k5 : Int32 → Int32 → Option (Int32)) (M_plan : Nat → Int32) (p1 : Int32) (p2 : Int32) (p3 : Int32) (p4 : Int32) : Option (Int32) := (f_X7_points M_plan).bind (fun r2 => if r2 ≤ p4 then (some p3) else ((f_X7_sumBy M_plan p4 p1 p2).bind (fun r5 => nm_ (p3 + r5) (fun t6 => nm_ (p4 + (1 : Int32)) (fun t7 => k5 t6 t7)))))
set_option maxHeartbeats 4000000 in
set_option maxRecDepth 100000 in
theorem wk_X7_sumsBy_5 {p : Program} {l : Launch} {e : Env} {s : State} {m : MethodId} {args : Array Value} {below : List Frame} {meth : Method} {c : Code} {D : va_G} {cI cC cZ : ClassId} {A : Nat → Prop} {a_M a_M_text a_M_plan a_M_read a_M_readPage a_M_page a_M_trial a_M_book a_M_kept a_M_isKept a_M_seenPoint a_M_seenSum a_M_seenWas : Nat} {M_thrown : Int32} {M_textSize : Int32} {M_place : Int32} {M_doings : Int32} {M_seen : Int32} {M_seed : Int64} {M_bestSet : Int32} {M_text : Nat → Int32} {M_plan : Nat → Int32} {M_read : Nat → Int32} {M_readPage : Nat → Int32} {M_page : Nat → Int32} {M_trial : Nat → Int32} {M_book : Nat → Int32} {M_kept : Nat → Int32} {M_isKept : Nat → Int32} {M_seenPoint : Nat → Int32} {M_seenSum : Nat → Int32} {M_seenWas : Nat → Int32} {p1 : Int32} {p2 : Int32} {p3 : Int32} {p4 : Int32} {k5 : Int32 → Int32 → Option (Int32)} {rr : Int32} (C0 : kC p s m args meth c D (kTY cI cC cZ) cX7_sumsBy (some .int) 5 RX7 A) (hk5 : ∀ (p3_k : Int32) (p4_k : Int32), k5 p3_k p4_k = some rr → ∀ (H : Heap) (locs : List Loc), va_P D vwCl (WD16 cI cC cZ a_M a_M_text a_M_plan a_M_read a_M_readPage a_M_page a_M_trial a_M_book a_M_kept a_M_isKept a_M_seenPoint a_M_seenSum a_M_seenWas M_thrown M_textSize M_place M_doings M_seen M_seed M_bestSet M_text M_plan M_read M_readPage M_page M_trial M_book M_kept M_isKept M_seenPoint M_seenSum M_seenWas) H → va_D A (WD16 cI cC cZ a_M a_M_text a_M_plan a_M_read a_M_readPage a_M_page a_M_trial a_M_book a_M_kept a_M_isKept a_M_seenPoint a_M_seenSum a_M_seenWas M_thrown M_textSize M_place M_doings M_seen M_seed M_bestSet M_text M_plan M_read M_readPage M_page M_trial M_book M_kept M_isKept M_seenPoint M_seenSum M_seenWas) → va_S A s.heap H locs → ∀ ls : Array Slot, lv_has ls 5 [(0, .ref a_M), (1, .int p1), (2, .int p2), (3, .int p3_k), (4, .int p4_k)] → W p l e rm_X7_sumsBy s m args below meth c H locs 0 0 (MQ below (kQI D (kTY cI cC cZ) A rr (WD16 cI cC cZ a_M a_M_text a_M_plan a_M_read a_M_readPage a_M_page a_M_trial a_M_book a_M_kept a_M_isKept a_M_seenPoint a_M_seenSum a_M_seenWas M_thrown M_textSize M_place M_doings M_seen M_seed M_bestSet M_text M_plan M_read M_readPage M_page M_trial M_book M_kept M_isKept M_seenPoint M_seenSum M_seenWas)) args s 0 0 A) (F0 m 5 ls [])) (h : bk_X7_sumsBy_5 k5 M_plan p1 p2 p3 p4 = some rr) {H : Heap} {locs : List Loc} (hP : va_P D vwCl (WD16 cI cC cZ a_M a_M_text a_M_plan a_M_read a_M_readPage a_M_page a_M_trial a_M_book a_M_kept a_M_isKept a_M_seenPoint a_M_seenSum a_M_seenWas M_thrown M_textSize M_place M_doings M_seen M_seed M_bestSet M_text M_plan M_read M_readPage M_page M_trial M_book M_kept M_isKept M_seenPoint M_seenSum M_seenWas) H) (hD : va_D A (WD16 cI cC cZ a_M a_M_text a_M_plan a_M_read a_M_readPage a_M_page a_M_trial a_M_book a_M_kept a_M_isKept a_M_seenPoint a_M_seenSum a_M_seenWas M_thrown M_textSize M_place M_doings M_seen M_seed M_bestSet M_text M_plan M_read M_readPage M_page M_trial M_book M_kept M_isKept M_seenPoint M_seenSum M_seenWas)) (hS : va_S A s.heap H locs) {ls : Array Slot} (hl : lv_has ls 5 [(0, .ref a_M), (1, .int p1), (2, .int p2), (3, .int p3), (4, .int p4)]) : W p l e rm_X7_sumsBy s m args below meth c H locs 0 0 (MQ below (kQI D (kTY cI cC cZ) A rr (WD16 cI cC cZ a_M a_M_text a_M_plan a_M_read a_M_readPage a_M_page a_M_trial a_M_book a_M_kept a_M_isKept a_M_seenPoint a_M_seenSum a_M_seenWas M_thrown M_textSize M_place M_doings M_seen M_seed M_bestSet M_text M_plan M_read M_readPage M_page M_trial M_book M_kept M_isKept M_seenPoint M_seenSum M_seenWas)) args s 0 0 A) (F0 m 5 ls []) := by
  obtain ⟨hx, hb, hr, hml, hown, hts, hK, hN, hA, hlocks, hF⟩ := id C0
  unfold bk_X7_sumsBy_5 at h
  refine lv_iload hx hb dX7_sumsBy_5 (lv_at hl 4 rfl) ?_
  refine lv_aload_n hx hb dX7_sumsBy_7 rfl (lv_at hl 0 rfl) ?_
  obtain ⟨r2, hc1, h⟩ := oc_bind h
  refine kro_i (wc := (WD16 cI cC cZ a_M a_M_text a_M_plan a_M_read a_M_readPage a_M_page a_M_trial a_M_book a_M_kept a_M_isKept a_M_seenPoint a_M_seenSum a_M_seenWas M_thrown M_textSize M_place M_doings M_seen M_seed M_bestSet M_text M_plan M_read M_readPage M_page M_trial M_book M_kept M_isKept M_seenPoint M_seenSum M_seenWas)) C0 hP hD hS [0, 1, 2, 3, 4, 5, 6, 7, 8, 9, 10, 11, 12] rfl (kV (n := 0) (As := []) (rest := [.int p4]) (wc := (WD16 cI cC cZ a_M a_M_text a_M_plan a_M_read a_M_readPage a_M_page a_M_trial a_M_book a_M_kept a_M_isKept a_M_seenPoint a_M_seenSum a_M_seenWas M_thrown M_textSize M_place M_doings M_seen M_seed M_bestSet M_text M_plan M_read M_readPage M_page M_trial M_book M_kept M_isKept M_seenPoint M_seenSum M_seenWas)) (C := RX7) C0 hP hD hS [0, 1, 2, 3, 4, 5, 6, 7, 8, 9, 10, 11, 12] rfl (by decide) (c_X7_points l D cI cC cZ a_M a_M_text a_M_plan a_M_read a_M_readPage a_M_page a_M_trial a_M_book a_M_kept a_M_isKept a_M_seenPoint a_M_seenSum a_M_seenWas H.size M_thrown M_textSize M_place M_doings M_seen M_seed M_bestSet M_text M_plan M_read M_readPage M_page M_trial M_book M_kept M_isKept M_seenPoint M_seenSum M_seenWas  r2 hc1) kw_361 kw_358 kw_359 kw_360 kw_5 (by decide +kernel) (by decide) rfl rfl rfl hl.1 rfl (Nat.le_of_ble_eq_true rfl) ⟨Nat.zero_le _, Nat.zero_le _⟩ dX7_sumsBy_8) (fun H locs hP hS => ?_)
  refine lv_icmp_ge (tgt := 31) hx hb dX7_sumsBy_11 (by decide) (fun c3 => ?_) (fun c3 => ?_)
  · have h := oc_t c3 h
    refine lv_iload_n hx hb dX7_sumsBy_31 rfl (lv_at hl 3 rfl) ?_
    cases h
    exact kret_i C0 hP hD hS rfl dX7_sumsBy_32
  · have h := oc_f c3 h
    refine lv_iload_n hx hb dX7_sumsBy_14 rfl (lv_at hl 3 rfl) ?_
    refine lv_aload_n hx hb dX7_sumsBy_15 rfl (lv_at hl 0 rfl) ?_
    refine lv_iload hx hb dX7_sumsBy_16 (lv_at hl 4 rfl) ?_
    refine lv_iload_n hx hb dX7_sumsBy_18 rfl (lv_at hl 1 rfl) ?_
    refine lv_iload_n hx hb dX7_sumsBy_19 rfl (lv_at hl 2 rfl) ?_
    obtain ⟨r5, hc4, h⟩ := oc_bind h
    refine kro_i (wc := (WD16 cI cC cZ a_M a_M_text a_M_plan a_M_read a_M_readPage a_M_page a_M_trial a_M_book a_M_kept a_M_isKept a_M_seenPoint a_M_seenSum a_M_seenWas M_thrown M_textSize M_place M_doings M_seen M_seed M_bestSet M_text M_plan M_read M_readPage M_page M_trial M_book M_kept M_isKept M_seenPoint M_seenSum M_seenWas)) C0 hP hD hS [0, 1, 2, 3, 4, 5, 6, 7, 8, 9, 10, 11, 12] rfl (kV (n := 3) (As := [.int p4, .int p1, .int p2]) (rest := [.int p3]) (wc := (WD16 cI cC cZ a_M a_M_text a_M_plan a_M_read a_M_readPage a_M_page a_M_trial a_M_book a_M_kept a_M_isKept a_M_seenPoint a_M_seenSum a_M_seenWas M_thrown M_textSize M_place M_doings M_seen M_seed M_bestSet M_text M_plan M_read M_readPage M_page M_trial M_book M_kept M_isKept M_seenPoint M_seenSum M_seenWas)) (C := RX7) C0 hP hD hS [0, 1, 2, 3, 4, 5, 6, 7, 8, 9, 10, 11, 12] rfl (by decide) (c_X7_sumBy l D cI cC cZ a_M a_M_text a_M_plan a_M_read a_M_readPage a_M_page a_M_trial a_M_book a_M_kept a_M_isKept a_M_seenPoint a_M_seenSum a_M_seenWas H.size M_thrown M_textSize M_place M_doings M_seen M_seed M_bestSet M_text M_plan M_read M_readPage M_page M_trial M_book M_kept M_isKept M_seenPoint M_seenSum M_seenWas p4 p1 p2 r5 hc4) kw_368 kw_365 kw_366 kw_367 kw_5 (by decide +kernel) (by decide) rfl rfl rfl hl.1 rfl (Nat.le_of_ble_eq_true rfl) ⟨Nat.zero_le _, Nat.zero_le _⟩ dX7_sumsBy_20) (fun H locs hP hS => ?_)
    refine lv_iadd hx hb dX7_sumsBy_23 ?_
    refine lv_topi (fun t6 e_t6 => ?_)
    have h := oc_nm e_t6 h
    refine lv_istore_n (lv' := [(3, .int t6), (0, .ref a_M), (1, .int p1), (2, .int p2), (4, .int p4)]) hx hb dX7_sumsBy_24 rfl hl (by decide) rfl (fun ls hl => ?_)
    obtain ⟨t7, e_t7⟩ : ∃ y : Int32, y = p4 + (1 : Int32) := ⟨_, rfl⟩
    have h := oc_nm e_t7 h
    refine lv_iinc (v := t7) (lv' := [(4, .int t7), (3, .int t6), (0, .ref a_M), (1, .int p1), (2, .int p2)]) hx hb dX7_sumsBy_25 hl (k := 4) rfl (by rw [e_t7]; rfl) (by decide) rfl (fun ls hl => ?_)
    refine lv_goto (tgt := 5) hx hb dX7_sumsBy_28 (by decide) ?_
    exact hk5 _ _ h _ _ hP hD hS _ (lv_sub hl [2, 3, 4, 1, 0] rfl)
noncomputable def lp_X7_sumsBy_5  (M_plan : Nat → Int32) (p1 : Int32) (p2 : Int32) (n : Nat) : Int32 → Int32 → Option (Int32) := Nat.rec (motive := fun _ => Int32 → Int32 → Option (Int32)) (fun _ _ => none) (fun _ ih => bk_X7_sumsBy_5  ih M_plan p1 p2) n
set_option maxHeartbeats 4000000 in
set_option maxRecDepth 100000 in
theorem wl_X7_sumsBy_5 {p : Program} {l : Launch} {e : Env} {s : State} {m : MethodId} {args : Array Value} {below : List Frame} {meth : Method} {c : Code} {D : va_G} {cI cC cZ : ClassId} {A : Nat → Prop} {a_M a_M_text a_M_plan a_M_read a_M_readPage a_M_page a_M_trial a_M_book a_M_kept a_M_isKept a_M_seenPoint a_M_seenSum a_M_seenWas : Nat} {M_thrown : Int32} {M_textSize : Int32} {M_place : Int32} {M_doings : Int32} {M_seen : Int32} {M_seed : Int64} {M_bestSet : Int32} {M_text : Nat → Int32} {M_plan : Nat → Int32} {M_read : Nat → Int32} {M_readPage : Nat → Int32} {M_page : Nat → Int32} {M_trial : Nat → Int32} {M_book : Nat → Int32} {M_kept : Nat → Int32} {M_isKept : Nat → Int32} {M_seenPoint : Nat → Int32} {M_seenSum : Nat → Int32} {M_seenWas : Nat → Int32} {p1 : Int32} {p2 : Int32}  {rr : Int32} (C0 : kC p s m args meth c D (kTY cI cC cZ) cX7_sumsBy (some .int) 5 RX7 A)  : ∀ (n : Nat) (p3 : Int32) (p4 : Int32), lp_X7_sumsBy_5  M_plan p1 p2 n p3 p4 = some rr → ∀ (H : Heap) (locs : List Loc), va_P D vwCl (WD16 cI cC cZ a_M a_M_text a_M_plan a_M_read a_M_readPage a_M_page a_M_trial a_M_book a_M_kept a_M_isKept a_M_seenPoint a_M_seenSum a_M_seenWas M_thrown M_textSize M_place M_doings M_seen M_seed M_bestSet M_text M_plan M_read M_readPage M_page M_trial M_book M_kept M_isKept M_seenPoint M_seenSum M_seenWas) H → va_D A (WD16 cI cC cZ a_M a_M_text a_M_plan a_M_read a_M_readPage a_M_page a_M_trial a_M_book a_M_kept a_M_isKept a_M_seenPoint a_M_seenSum a_M_seenWas M_thrown M_textSize M_place M_doings M_seen M_seed M_bestSet M_text M_plan M_read M_readPage M_page M_trial M_book M_kept M_isKept M_seenPoint M_seenSum M_seenWas) → va_S A s.heap H locs → ∀ ls : Array Slot, lv_has ls 5 [(0, .ref a_M), (1, .int p1), (2, .int p2), (3, .int p3), (4, .int p4)] → W p l e rm_X7_sumsBy s m args below meth c H locs 0 0 (MQ below (kQI D (kTY cI cC cZ) A rr (WD16 cI cC cZ a_M a_M_text a_M_plan a_M_read a_M_readPage a_M_page a_M_trial a_M_book a_M_kept a_M_isKept a_M_seenPoint a_M_seenSum a_M_seenWas M_thrown M_textSize M_place M_doings M_seen M_seed M_bestSet M_text M_plan M_read M_readPage M_page M_trial M_book M_kept M_isKept M_seenPoint M_seenSum M_seenWas)) args s 0 0 A) (F0 m 5 ls []) := by
  intro n
  induction n with
  | zero => intro p3 p4 h; cases (show (none : Option (Int32)) = some _ from h)
  | succ n ih =>
    intro p3 p4 h H locs hP hD hS ls hl
    exact wk_X7_sumsBy_5 C0  (fun p3 p4 h H locs hP hD hS ls hl => ih p3 p4 h H locs hP hD hS ls hl) (show bk_X7_sumsBy_5  (lp_X7_sumsBy_5  M_plan p1 p2 n) M_plan p1 p2 p3 p4 = some _ from h) hP hD hS hl
noncomputable def f_X7_sumsBy (M_plan : Nat → Int32) (p1 : Int32) (p2 : Int32) : Option (Int32) := lp_X7_sumsBy_5  M_plan p1 p2 1000 (0 : Int32) (0 : Int32)
set_option maxHeartbeats 4000000 in
set_option maxRecDepth 100000 in
theorem c_X7_sumsBy (l : Launch) (D : va_G) (cI cC cZ : ClassId) (a_M a_M_text a_M_plan a_M_read a_M_readPage a_M_page a_M_trial a_M_book a_M_kept a_M_isKept a_M_seenPoint a_M_seenSum a_M_seenWas : Nat) (sz : Nat) (M_thrown : Int32) (M_textSize : Int32) (M_place : Int32) (M_doings : Int32) (M_seen : Int32) (M_seed : Int64) (M_bestSet : Int32) (M_text : Nat → Int32) (M_plan : Nat → Int32) (M_read : Nat → Int32) (M_readPage : Nat → Int32) (M_page : Nat → Int32) (M_trial : Nat → Int32) (M_book : Nat → Int32) (M_kept : Nat → Int32) (M_isKept : Nat → Int32) (M_seenPoint : Nat → Int32) (M_seenSum : Nat → Int32) (M_seenWas : Nat → Int32) (p1 : Int32) (p2 : Int32) (rr : Int32) (hf : f_X7_sumsBy M_plan p1 p2 = some rr) : kMet l yX7_sumsBy cX7_sumsBy 5 (some .int) rm_X7_sumsBy D (kTY cI cC cZ) [.ref a_M, .int p1, .int p2] (WD16 cI cC cZ a_M a_M_text a_M_plan a_M_read a_M_readPage a_M_page a_M_trial a_M_book a_M_kept a_M_isKept a_M_seenPoint a_M_seenSum a_M_seenWas M_thrown M_textSize M_place M_doings M_seen M_seed M_bestSet M_text M_plan M_read M_readPage M_page M_trial M_book M_kept M_isKept M_seenPoint M_seenSum M_seenWas) sz (kQI D (kTY cI cC cZ) (va_A (WD16 cI cC cZ a_M a_M_text a_M_plan a_M_read a_M_readPage a_M_page a_M_trial a_M_book a_M_kept a_M_isKept a_M_seenPoint a_M_seenSum a_M_seenWas M_thrown M_textSize M_place M_doings M_seen M_seed M_bestSet M_text M_plan M_read M_readPage M_page M_trial M_book M_kept M_isKept M_seenPoint M_seenSum M_seenWas) sz) rr (WD16 cI cC cZ a_M a_M_text a_M_plan a_M_read a_M_readPage a_M_page a_M_trial a_M_book a_M_kept a_M_isKept a_M_seenPoint a_M_seenSum a_M_seenWas M_thrown M_textSize M_place M_doings M_seen M_seed M_bestSet M_text M_plan M_read M_readPage M_page M_trial M_book M_kept M_isKept M_seenPoint M_seenSum M_seenWas)) := by
  refine kEnter (lv := [(0, .ref a_M), (1, .int p1), (2, .int p2)]) (own := RX7) (by decide) rfl (Nat.le_of_ble_eq_true rfl) rfl ?_
  intro p e s m below meth c hsz C0 hP hD hS ls hl
  generalize (va_A (WD16 cI cC cZ a_M a_M_text a_M_plan a_M_read a_M_readPage a_M_page a_M_trial a_M_book a_M_kept a_M_isKept a_M_seenPoint a_M_seenSum a_M_seenWas M_thrown M_textSize M_place M_doings M_seen M_seed M_bestSet M_text M_plan M_read M_readPage M_page M_trial M_book M_kept M_isKept M_seenPoint M_seenSum M_seenWas) sz) = A at C0 hD hS ⊢
  clear hsz hS
  obtain ⟨H, hHs⟩ : ∃ H : Heap, H = s.heap := ⟨_, rfl⟩
  have hS : va_S A s.heap H [] := by rw [hHs]; exact va_S.rf
  rw [← hHs] at hP ⊢
  obtain ⟨hx, hb, hr, hml, hown, hts, hK, hN, hA, hlocks, hF⟩ := id C0
  have h := hf
  unfold f_X7_sumsBy at h
  refine lv_iconst (v := (0 : Int32)) hx hb dX7_sumsBy_0 (by decide) ?_
  refine lv_istore_n (lv' := [(3, .int (0 : Int32)), (0, .ref a_M), (1, .int p1), (2, .int p2)]) hx hb dX7_sumsBy_1 rfl hl (by decide) rfl (fun ls hl => ?_)
  refine lv_iconst (v := (0 : Int32)) hx hb dX7_sumsBy_2 (by decide) ?_
  refine lv_istore (lv' := [(4, .int (0 : Int32)), (3, .int (0 : Int32)), (0, .ref a_M), (1, .int p1), (2, .int p2)]) hx hb dX7_sumsBy_3 hl (by decide) rfl (fun ls hl => ?_)
  exact wl_X7_sumsBy_5 C0  _ _ _ h _ _ hP hD hS _ (lv_sub hl [2, 3, 4, 1, 0] rfl)
abbrev rm_X7_servedBy_page : Room := { frames := 7, cells := 0, slots := 0, locals := 181 }
noncomputable def bk_X7_servedBy_page_6 (k6 : Int32 → Int32 → Option (Int32)) (M_plan : Nat → Int32) (M_page : Nat → Int32) (p2 : Int32) (p3 : Int32) (p4 : Int32) (p5 : Int32) : Option (Int32) := (f_X7_points M_plan).bind (fun r2 => if r2 ≤ p5 then (some p4) else ((f_X7_sumBy M_plan p5 p2 p3).bind (fun r5 => if (((3 : Int32) + p5) < 0 ∨ 9 ≤ Int32.toNatClampNeg ((3 : Int32) + p5)) then none else (if r5 < (M_page (Int32.toNatClampNeg ((3 : Int32) + p5))) then (nm_ (p4 ||| (0 : Int32)) (fun t8 => nm_ (p5 + (1 : Int32)) (fun t9 => k6 t8 t9))) else (nm_ (p4 ||| ((1 : Int32) <<< (p5 &&& 31))) (fun t10 => nm_ (p5 + (1 : Int32)) (fun t11 => k6 t10 t11)))))))
set_option maxHeartbeats 4000000 in
set_option maxRecDepth 100000 in
theorem wk_X7_servedBy_page_6 {p : Program} {l : Launch} {e : Env} {s : State} {m : MethodId} {args : Array Value} {below : List Frame} {meth : Method} {c : Code} {D : va_G} {cI cC cZ : ClassId} {A : Nat → Prop} {a_M a_M_text a_M_plan a_M_read a_M_readPage a_M_page a_M_trial a_M_book a_M_kept a_M_isKept a_M_seenPoint a_M_seenSum a_M_seenWas : Nat} {M_thrown : Int32} {M_textSize : Int32} {M_place : Int32} {M_doings : Int32} {M_seen : Int32} {M_seed : Int64} {M_bestSet : Int32} {M_text : Nat → Int32} {M_plan : Nat → Int32} {M_read : Nat → Int32} {M_readPage : Nat → Int32} {M_page : Nat → Int32} {M_trial : Nat → Int32} {M_book : Nat → Int32} {M_kept : Nat → Int32} {M_isKept : Nat → Int32} {M_seenPoint : Nat → Int32} {M_seenSum : Nat → Int32} {M_seenWas : Nat → Int32} {p2 : Int32} {p3 : Int32} {p4 : Int32} {p5 : Int32} {k6 : Int32 → Int32 → Option (Int32)} {rr : Int32} (C0 : kC p s m args meth c D (kTY cI cC cZ) cX7_servedBy (some .int) 6 RX7 A) (hk6 : ∀ (p4_k : Int32) (p5_k : Int32), k6 p4_k p5_k = some rr → ∀ (H : Heap) (locs : List Loc), va_P D vwCl (WD16 cI cC cZ a_M a_M_text a_M_plan a_M_read a_M_readPage a_M_page a_M_trial a_M_book a_M_kept a_M_isKept a_M_seenPoint a_M_seenSum a_M_seenWas M_thrown M_textSize M_place M_doings M_seen M_seed M_bestSet M_text M_plan M_read M_readPage M_page M_trial M_book M_kept M_isKept M_seenPoint M_seenSum M_seenWas) H → va_D A (WD16 cI cC cZ a_M a_M_text a_M_plan a_M_read a_M_readPage a_M_page a_M_trial a_M_book a_M_kept a_M_isKept a_M_seenPoint a_M_seenSum a_M_seenWas M_thrown M_textSize M_place M_doings M_seen M_seed M_bestSet M_text M_plan M_read M_readPage M_page M_trial M_book M_kept M_isKept M_seenPoint M_seenSum M_seenWas) → va_S A s.heap H locs → ∀ ls : Array Slot, lv_has ls 6 [(0, .ref a_M), (1, .ref a_M_page), (2, .int p2), (3, .int p3), (4, .int p4_k), (5, .int p5_k)] → W p l e rm_X7_servedBy_page s m args below meth c H locs 0 0 (MQ below (kQI D (kTY cI cC cZ) A rr (WD16 cI cC cZ a_M a_M_text a_M_plan a_M_read a_M_readPage a_M_page a_M_trial a_M_book a_M_kept a_M_isKept a_M_seenPoint a_M_seenSum a_M_seenWas M_thrown M_textSize M_place M_doings M_seen M_seed M_bestSet M_text M_plan M_read M_readPage M_page M_trial M_book M_kept M_isKept M_seenPoint M_seenSum M_seenWas)) args s 0 0 A) (F0 m 6 ls [])) (h : bk_X7_servedBy_page_6 k6 M_plan M_page p2 p3 p4 p5 = some rr) {H : Heap} {locs : List Loc} (hP : va_P D vwCl (WD16 cI cC cZ a_M a_M_text a_M_plan a_M_read a_M_readPage a_M_page a_M_trial a_M_book a_M_kept a_M_isKept a_M_seenPoint a_M_seenSum a_M_seenWas M_thrown M_textSize M_place M_doings M_seen M_seed M_bestSet M_text M_plan M_read M_readPage M_page M_trial M_book M_kept M_isKept M_seenPoint M_seenSum M_seenWas) H) (hD : va_D A (WD16 cI cC cZ a_M a_M_text a_M_plan a_M_read a_M_readPage a_M_page a_M_trial a_M_book a_M_kept a_M_isKept a_M_seenPoint a_M_seenSum a_M_seenWas M_thrown M_textSize M_place M_doings M_seen M_seed M_bestSet M_text M_plan M_read M_readPage M_page M_trial M_book M_kept M_isKept M_seenPoint M_seenSum M_seenWas)) (hS : va_S A s.heap H locs) {ls : Array Slot} (hl : lv_has ls 6 [(0, .ref a_M), (1, .ref a_M_page), (2, .int p2), (3, .int p3), (4, .int p4), (5, .int p5)]) : W p l e rm_X7_servedBy_page s m args below meth c H locs 0 0 (MQ below (kQI D (kTY cI cC cZ) A rr (WD16 cI cC cZ a_M a_M_text a_M_plan a_M_read a_M_readPage a_M_page a_M_trial a_M_book a_M_kept a_M_isKept a_M_seenPoint a_M_seenSum a_M_seenWas M_thrown M_textSize M_place M_doings M_seen M_seed M_bestSet M_text M_plan M_read M_readPage M_page M_trial M_book M_kept M_isKept M_seenPoint M_seenSum M_seenWas)) args s 0 0 A) (F0 m 6 ls []) := by
  obtain ⟨hx, hb, hr, hml, hown, hts, hK, hN, hA, hlocks, hF⟩ := id C0
  unfold bk_X7_servedBy_page_6 at h
  refine lv_iload hx hb dX7_servedBy_6 (lv_at hl 5 rfl) ?_
  refine lv_aload_n hx hb dX7_servedBy_8 rfl (lv_at hl 0 rfl) ?_
  obtain ⟨r2, hc1, h⟩ := oc_bind h
  refine kro_i (wc := (WD16 cI cC cZ a_M a_M_text a_M_plan a_M_read a_M_readPage a_M_page a_M_trial a_M_book a_M_kept a_M_isKept a_M_seenPoint a_M_seenSum a_M_seenWas M_thrown M_textSize M_place M_doings M_seen M_seed M_bestSet M_text M_plan M_read M_readPage M_page M_trial M_book M_kept M_isKept M_seenPoint M_seenSum M_seenWas)) C0 hP hD hS [0, 1, 2, 3, 4, 5, 6, 7, 8, 9, 10, 11, 12] rfl (kV (n := 0) (As := []) (rest := [.int p5]) (wc := (WD16 cI cC cZ a_M a_M_text a_M_plan a_M_read a_M_readPage a_M_page a_M_trial a_M_book a_M_kept a_M_isKept a_M_seenPoint a_M_seenSum a_M_seenWas M_thrown M_textSize M_place M_doings M_seen M_seed M_bestSet M_text M_plan M_read M_readPage M_page M_trial M_book M_kept M_isKept M_seenPoint M_seenSum M_seenWas)) (C := RX7) C0 hP hD hS [0, 1, 2, 3, 4, 5, 6, 7, 8, 9, 10, 11, 12] rfl (by decide) (c_X7_points l D cI cC cZ a_M a_M_text a_M_plan a_M_read a_M_readPage a_M_page a_M_trial a_M_book a_M_kept a_M_isKept a_M_seenPoint a_M_seenSum a_M_seenWas H.size M_thrown M_textSize M_place M_doings M_seen M_seed M_bestSet M_text M_plan M_read M_readPage M_page M_trial M_book M_kept M_isKept M_seenPoint M_seenSum M_seenWas  r2 hc1) kw_361 kw_358 kw_359 kw_360 kw_5 (by decide +kernel) (by decide) rfl rfl rfl hl.1 rfl (Nat.le_of_ble_eq_true rfl) ⟨Nat.zero_le _, Nat.zero_le _⟩ dX7_servedBy_9) (fun H locs hP hS => ?_)
  refine lv_icmp_ge (tgt := 51) hx hb dX7_servedBy_12 (by decide) (fun c3 => ?_) (fun c3 => ?_)
  · have h := oc_t c3 h
    refine lv_iload hx hb dX7_servedBy_51 (lv_at hl 4 rfl) ?_
    cases h
    exact kret_i C0 hP hD hS rfl dX7_servedBy_53
  · have h := oc_f c3 h
    refine lv_iload hx hb dX7_servedBy_15 (lv_at hl 4 rfl) ?_
    refine lv_aload_n hx hb dX7_servedBy_17 rfl (lv_at hl 0 rfl) ?_
    refine lv_iload hx hb dX7_servedBy_18 (lv_at hl 5 rfl) ?_
    refine lv_iload_n hx hb dX7_servedBy_20 rfl (lv_at hl 2 rfl) ?_
    refine lv_iload_n hx hb dX7_servedBy_21 rfl (lv_at hl 3 rfl) ?_
    obtain ⟨r5, hc4, h⟩ := oc_bind h
    refine kro_i (wc := (WD16 cI cC cZ a_M a_M_text a_M_plan a_M_read a_M_readPage a_M_page a_M_trial a_M_book a_M_kept a_M_isKept a_M_seenPoint a_M_seenSum a_M_seenWas M_thrown M_textSize M_place M_doings M_seen M_seed M_bestSet M_text M_plan M_read M_readPage M_page M_trial M_book M_kept M_isKept M_seenPoint M_seenSum M_seenWas)) C0 hP hD hS [0, 1, 2, 3, 4, 5, 6, 7, 8, 9, 10, 11, 12] rfl (kV (n := 3) (As := [.int p5, .int p2, .int p3]) (rest := [.int p4]) (wc := (WD16 cI cC cZ a_M a_M_text a_M_plan a_M_read a_M_readPage a_M_page a_M_trial a_M_book a_M_kept a_M_isKept a_M_seenPoint a_M_seenSum a_M_seenWas M_thrown M_textSize M_place M_doings M_seen M_seed M_bestSet M_text M_plan M_read M_readPage M_page M_trial M_book M_kept M_isKept M_seenPoint M_seenSum M_seenWas)) (C := RX7) C0 hP hD hS [0, 1, 2, 3, 4, 5, 6, 7, 8, 9, 10, 11, 12] rfl (by decide) (c_X7_sumBy l D cI cC cZ a_M a_M_text a_M_plan a_M_read a_M_readPage a_M_page a_M_trial a_M_book a_M_kept a_M_isKept a_M_seenPoint a_M_seenSum a_M_seenWas H.size M_thrown M_textSize M_place M_doings M_seen M_seed M_bestSet M_text M_plan M_read M_readPage M_page M_trial M_book M_kept M_isKept M_seenPoint M_seenSum M_seenWas p5 p2 p3 r5 hc4) kw_368 kw_365 kw_366 kw_367 kw_5 (by decide +kernel) (by decide) rfl rfl rfl hl.1 rfl (Nat.le_of_ble_eq_true rfl) ⟨Nat.zero_le _, Nat.zero_le _⟩ dX7_servedBy_22) (fun H locs hP hS => ?_)
    refine lv_aload_n hx hb dX7_servedBy_25 rfl (lv_at hl 1 rfl) ?_
    refine lv_iconst (v := (3 : Int32)) hx hb dX7_servedBy_26 (by decide) ?_
    refine lv_iload hx hb dX7_servedBy_27 (lv_at hl 5 rfl) ?_
    refine lv_iadd hx hb dX7_servedBy_29 ?_
    obtain ⟨hb6, h⟩ := oc_else h
    refine va_iald hx hb hK hP 5 0 rfl rfl hb6 dX7_servedBy_30 ?_
    refine lv_icmp_lt (tgt := 41) hx hb dX7_servedBy_31 (by decide) (fun c7 => ?_) (fun c7 => ?_)
    · have h := oc_t c7 h
      refine lv_iconst (v := (0 : Int32)) hx hb dX7_servedBy_41 (by decide) ?_
      refine lv_ior hx hb dX7_servedBy_42 ?_
      refine lv_topi (fun t8 e_t8 => ?_)
      have h := oc_nm e_t8 h
      refine lv_istore (lv' := [(4, .int t8), (0, .ref a_M), (1, .ref a_M_page), (2, .int p2), (3, .int p3), (5, .int p5)]) hx hb dX7_servedBy_43 hl (by decide) rfl (fun ls hl => ?_)
      obtain ⟨t9, e_t9⟩ : ∃ y : Int32, y = p5 + (1 : Int32) := ⟨_, rfl⟩
      have h := oc_nm e_t9 h
      refine lv_iinc (v := t9) (lv' := [(5, .int t9), (4, .int t8), (0, .ref a_M), (1, .ref a_M_page), (2, .int p2), (3, .int p3)]) hx hb dX7_servedBy_45 hl (k := 5) rfl (by rw [e_t9]; rfl) (by decide) rfl (fun ls hl => ?_)
      refine lv_goto (tgt := 6) hx hb dX7_servedBy_48 (by decide) ?_
      exact hk6 _ _ h _ _ hP hD hS _ (lv_sub hl [2, 3, 4, 5, 1, 0] rfl)
    · have h := oc_f c7 h
      refine lv_iconst (v := (1 : Int32)) hx hb dX7_servedBy_34 (by decide) ?_
      refine lv_iload hx hb dX7_servedBy_35 (lv_at hl 5 rfl) ?_
      refine lv_ishl hx hb dX7_servedBy_37 ?_
      refine lv_goto (tgt := 42) hx hb dX7_servedBy_38 (by decide) ?_
      refine lv_ior hx hb dX7_servedBy_42 ?_
      refine lv_topi (fun t10 e_t10 => ?_)
      have h := oc_nm e_t10 h
      refine lv_istore (lv' := [(4, .int t10), (0, .ref a_M), (1, .ref a_M_page), (2, .int p2), (3, .int p3), (5, .int p5)]) hx hb dX7_servedBy_43 hl (by decide) rfl (fun ls hl => ?_)
      obtain ⟨t11, e_t11⟩ : ∃ y : Int32, y = p5 + (1 : Int32) := ⟨_, rfl⟩
      have h := oc_nm e_t11 h
      refine lv_iinc (v := t11) (lv' := [(5, .int t11), (4, .int t10), (0, .ref a_M), (1, .ref a_M_page), (2, .int p2), (3, .int p3)]) hx hb dX7_servedBy_45 hl (k := 5) rfl (by rw [e_t11]; rfl) (by decide) rfl (fun ls hl => ?_)
      refine lv_goto (tgt := 6) hx hb dX7_servedBy_48 (by decide) ?_
      exact hk6 _ _ h _ _ hP hD hS _ (lv_sub hl [2, 3, 4, 5, 1, 0] rfl)
noncomputable def lp_X7_servedBy_page_6  (M_plan : Nat → Int32) (M_page : Nat → Int32) (p2 : Int32) (p3 : Int32) (n : Nat) : Int32 → Int32 → Option (Int32) := Nat.rec (motive := fun _ => Int32 → Int32 → Option (Int32)) (fun _ _ => none) (fun _ ih => bk_X7_servedBy_page_6  ih M_plan M_page p2 p3) n
set_option maxHeartbeats 4000000 in
set_option maxRecDepth 100000 in
theorem wl_X7_servedBy_page_6 {p : Program} {l : Launch} {e : Env} {s : State} {m : MethodId} {args : Array Value} {below : List Frame} {meth : Method} {c : Code} {D : va_G} {cI cC cZ : ClassId} {A : Nat → Prop} {a_M a_M_text a_M_plan a_M_read a_M_readPage a_M_page a_M_trial a_M_book a_M_kept a_M_isKept a_M_seenPoint a_M_seenSum a_M_seenWas : Nat} {M_thrown : Int32} {M_textSize : Int32} {M_place : Int32} {M_doings : Int32} {M_seen : Int32} {M_seed : Int64} {M_bestSet : Int32} {M_text : Nat → Int32} {M_plan : Nat → Int32} {M_read : Nat → Int32} {M_readPage : Nat → Int32} {M_page : Nat → Int32} {M_trial : Nat → Int32} {M_book : Nat → Int32} {M_kept : Nat → Int32} {M_isKept : Nat → Int32} {M_seenPoint : Nat → Int32} {M_seenSum : Nat → Int32} {M_seenWas : Nat → Int32} {p2 : Int32} {p3 : Int32}  {rr : Int32} (C0 : kC p s m args meth c D (kTY cI cC cZ) cX7_servedBy (some .int) 6 RX7 A)  : ∀ (n : Nat) (p4 : Int32) (p5 : Int32), lp_X7_servedBy_page_6  M_plan M_page p2 p3 n p4 p5 = some rr → ∀ (H : Heap) (locs : List Loc), va_P D vwCl (WD16 cI cC cZ a_M a_M_text a_M_plan a_M_read a_M_readPage a_M_page a_M_trial a_M_book a_M_kept a_M_isKept a_M_seenPoint a_M_seenSum a_M_seenWas M_thrown M_textSize M_place M_doings M_seen M_seed M_bestSet M_text M_plan M_read M_readPage M_page M_trial M_book M_kept M_isKept M_seenPoint M_seenSum M_seenWas) H → va_D A (WD16 cI cC cZ a_M a_M_text a_M_plan a_M_read a_M_readPage a_M_page a_M_trial a_M_book a_M_kept a_M_isKept a_M_seenPoint a_M_seenSum a_M_seenWas M_thrown M_textSize M_place M_doings M_seen M_seed M_bestSet M_text M_plan M_read M_readPage M_page M_trial M_book M_kept M_isKept M_seenPoint M_seenSum M_seenWas) → va_S A s.heap H locs → ∀ ls : Array Slot, lv_has ls 6 [(0, .ref a_M), (1, .ref a_M_page), (2, .int p2), (3, .int p3), (4, .int p4), (5, .int p5)] → W p l e rm_X7_servedBy_page s m args below meth c H locs 0 0 (MQ below (kQI D (kTY cI cC cZ) A rr (WD16 cI cC cZ a_M a_M_text a_M_plan a_M_read a_M_readPage a_M_page a_M_trial a_M_book a_M_kept a_M_isKept a_M_seenPoint a_M_seenSum a_M_seenWas M_thrown M_textSize M_place M_doings M_seen M_seed M_bestSet M_text M_plan M_read M_readPage M_page M_trial M_book M_kept M_isKept M_seenPoint M_seenSum M_seenWas)) args s 0 0 A) (F0 m 6 ls []) := by
  intro n
  induction n with
  | zero => intro p4 p5 h; cases (show (none : Option (Int32)) = some _ from h)
  | succ n ih =>
    intro p4 p5 h H locs hP hD hS ls hl
    exact wk_X7_servedBy_page_6 C0  (fun p4 p5 h H locs hP hD hS ls hl => ih p4 p5 h H locs hP hD hS ls hl) (show bk_X7_servedBy_page_6  (lp_X7_servedBy_page_6  M_plan M_page p2 p3 n) M_plan M_page p2 p3 p4 p5 = some _ from h) hP hD hS hl
noncomputable def f_X7_servedBy_page (M_plan : Nat → Int32) (M_page : Nat → Int32) (p2 : Int32) (p3 : Int32) : Option (Int32) := lp_X7_servedBy_page_6  M_plan M_page p2 p3 1000 (0 : Int32) (0 : Int32)
set_option maxHeartbeats 4000000 in
set_option maxRecDepth 100000 in
theorem c_X7_servedBy_page (l : Launch) (D : va_G) (cI cC cZ : ClassId) (a_M a_M_text a_M_plan a_M_read a_M_readPage a_M_page a_M_trial a_M_book a_M_kept a_M_isKept a_M_seenPoint a_M_seenSum a_M_seenWas : Nat) (sz : Nat) (M_thrown : Int32) (M_textSize : Int32) (M_place : Int32) (M_doings : Int32) (M_seen : Int32) (M_seed : Int64) (M_bestSet : Int32) (M_text : Nat → Int32) (M_plan : Nat → Int32) (M_read : Nat → Int32) (M_readPage : Nat → Int32) (M_page : Nat → Int32) (M_trial : Nat → Int32) (M_book : Nat → Int32) (M_kept : Nat → Int32) (M_isKept : Nat → Int32) (M_seenPoint : Nat → Int32) (M_seenSum : Nat → Int32) (M_seenWas : Nat → Int32) (p2 : Int32) (p3 : Int32) (rr : Int32) (hf : f_X7_servedBy_page M_plan M_page p2 p3 = some rr) : kMet l yX7_servedBy cX7_servedBy 6 (some .int) rm_X7_servedBy_page D (kTY cI cC cZ) [.ref a_M, .ref a_M_page, .int p2, .int p3] (WD16 cI cC cZ a_M a_M_text a_M_plan a_M_read a_M_readPage a_M_page a_M_trial a_M_book a_M_kept a_M_isKept a_M_seenPoint a_M_seenSum a_M_seenWas M_thrown M_textSize M_place M_doings M_seen M_seed M_bestSet M_text M_plan M_read M_readPage M_page M_trial M_book M_kept M_isKept M_seenPoint M_seenSum M_seenWas) sz (kQI D (kTY cI cC cZ) (va_A (WD16 cI cC cZ a_M a_M_text a_M_plan a_M_read a_M_readPage a_M_page a_M_trial a_M_book a_M_kept a_M_isKept a_M_seenPoint a_M_seenSum a_M_seenWas M_thrown M_textSize M_place M_doings M_seen M_seed M_bestSet M_text M_plan M_read M_readPage M_page M_trial M_book M_kept M_isKept M_seenPoint M_seenSum M_seenWas) sz) rr (WD16 cI cC cZ a_M a_M_text a_M_plan a_M_read a_M_readPage a_M_page a_M_trial a_M_book a_M_kept a_M_isKept a_M_seenPoint a_M_seenSum a_M_seenWas M_thrown M_textSize M_place M_doings M_seen M_seed M_bestSet M_text M_plan M_read M_readPage M_page M_trial M_book M_kept M_isKept M_seenPoint M_seenSum M_seenWas)) := by
  refine kEnter (lv := [(0, .ref a_M), (1, .ref a_M_page), (2, .int p2), (3, .int p3)]) (own := RX7) (by decide) rfl (Nat.le_of_ble_eq_true rfl) rfl ?_
  intro p e s m below meth c hsz C0 hP hD hS ls hl
  generalize (va_A (WD16 cI cC cZ a_M a_M_text a_M_plan a_M_read a_M_readPage a_M_page a_M_trial a_M_book a_M_kept a_M_isKept a_M_seenPoint a_M_seenSum a_M_seenWas M_thrown M_textSize M_place M_doings M_seen M_seed M_bestSet M_text M_plan M_read M_readPage M_page M_trial M_book M_kept M_isKept M_seenPoint M_seenSum M_seenWas) sz) = A at C0 hD hS ⊢
  clear hsz hS
  obtain ⟨H, hHs⟩ : ∃ H : Heap, H = s.heap := ⟨_, rfl⟩
  have hS : va_S A s.heap H [] := by rw [hHs]; exact va_S.rf
  rw [← hHs] at hP ⊢
  obtain ⟨hx, hb, hr, hml, hown, hts, hK, hN, hA, hlocks, hF⟩ := id C0
  have h := hf
  unfold f_X7_servedBy_page at h
  refine lv_iconst (v := (0 : Int32)) hx hb dX7_servedBy_0 (by decide) ?_
  refine lv_istore (lv' := [(4, .int (0 : Int32)), (0, .ref a_M), (1, .ref a_M_page), (2, .int p2), (3, .int p3)]) hx hb dX7_servedBy_1 hl (by decide) rfl (fun ls hl => ?_)
  refine lv_iconst (v := (0 : Int32)) hx hb dX7_servedBy_3 (by decide) ?_
  refine lv_istore (lv' := [(5, .int (0 : Int32)), (4, .int (0 : Int32)), (0, .ref a_M), (1, .ref a_M_page), (2, .int p2), (3, .int p3)]) hx hb dX7_servedBy_4 hl (by decide) rfl (fun ls hl => ?_)
  exact wl_X7_servedBy_page_6 C0  _ _ _ h _ _ hP hD hS _ (lv_sub hl [2, 3, 4, 5, 1, 0] rfl)
