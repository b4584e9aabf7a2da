abbrev rm_X7_serves : Room := { frames := 8, cells := 0, slots := 0, locals := 206 }
noncomputable def f_X7_serves (M_plan : Nat → Int32) (M_page : Nat → Int32) (p1 : Int32) : Option (Int32) := (f_X7_servedBy_page M_plan M_page p1 (M_page (Int32.toNatClampNeg (2 : Int32)))).bind (fun r2 => (f_X7_points M_plan).bind (fun r4 => if r2 = (((1 : Int32) <<< (r4 &&& 31)) - (1 : Int32)) then (some (1 : Int32)) else (some (0 : Int32))))
set_option maxHeartbeats 4000000 in
set_option maxRecDepth 100000 in
theorem c_X7_serves (l : Launch) (D : va_G) (cI cC cZ : ClassId) (a_M a_M_text a_M_plan a_M_read a_M_readPage a_M_page a_M_trial a_M_book a_M_kept a_M_isKept a_M_seenPoint a_M_seenSum a_M_seenWas : Nat) (sz : Nat) (M_thrown : Int32) (M_textSize : Int32) (M_place : Int32) (M_doings : Int32) (M_seen : Int32) (M_seed : Int64) (M_bestSet : Int32) (M_text : Nat → Int32) (M_plan : Nat → Int32) (M_read : Nat → Int32) (M_readPage : Nat → Int32) (M_page : Nat → Int32) (M_trial : Nat → Int32) (M_book : Nat → Int32) (M_kept : Nat → Int32) (M_isKept : Nat → Int32) (M_seenPoint : Nat → Int32) (M_seenSum : Nat → Int32) (M_seenWas : Nat → Int32) (p1 : Int32) (rr : Int32) (hf : f_X7_serves M_plan M_page p1 = some rr) : kMet l yX7_serves cX7_serves 2 (some .boolean) rm_X7_serves D (kTY cI cC cZ) [.ref a_M, .int p1] (WD16 cI cC cZ a_M a_M_text a_M_plan a_M_read a_M_readPage a_M_page a_M_trial a_M_book a_M_kept a_M_isKept a_M_seenPoint a_M_seenSum a_M_seenWas M_thrown M_textSize M_place M_doings M_seen M_seed M_bestSet M_text M_plan M_read M_readPage M_page M_trial M_book M_kept M_isKept M_seenPoint M_seenSum M_seenWas) sz (kQI D (kTY cI cC cZ) (va_A (WD16 cI cC cZ a_M a_M_text a_M_plan a_M_read a_M_readPage a_M_page a_M_trial a_M_book a_M_kept a_M_isKept a_M_seenPoint a_M_seenSum a_M_seenWas M_thrown M_textSize M_place M_doings M_seen M_seed M_bestSet M_text M_plan M_read M_readPage M_page M_trial M_book M_kept M_isKept M_seenPoint M_seenSum M_seenWas) sz) rr (WD16 cI cC cZ a_M a_M_text a_M_plan a_M_read a_M_readPage a_M_page a_M_trial a_M_book a_M_kept a_M_isKept a_M_seenPoint a_M_seenSum a_M_seenWas M_thrown M_textSize M_place M_doings M_seen M_seed M_bestSet M_text M_plan M_read M_readPage M_page M_trial M_book M_kept M_isKept M_seenPoint M_seenSum M_seenWas)) := by
  refine kEnter (lv := [(0, .ref a_M), (1, .int p1)]) (own := RX7) (by decide) rfl (Nat.le_of_ble_eq_true rfl) rfl ?_
  intro p e s m below meth c hsz C0 hP hD hS ls hl
  generalize (va_A (WD16 cI cC cZ a_M a_M_text a_M_plan a_M_read a_M_readPage a_M_page a_M_trial a_M_book a_M_kept a_M_isKept a_M_seenPoint a_M_seenSum a_M_seenWas M_thrown M_textSize M_place M_doings M_seen M_seed M_bestSet M_text M_plan M_read M_readPage M_page M_trial M_book M_kept M_isKept M_seenPoint M_seenSum M_seenWas) sz) = A at C0 hD hS ⊢
  clear hsz hS
  obtain ⟨H, hHs⟩ : ∃ H : Heap, H = s.heap := ⟨_, rfl⟩
  have hS : va_S A s.heap H [] := by rw [hHs]; exact va_S.rf
  rw [← hHs] at hP ⊢
  obtain ⟨hx, hb, hr, hml, hown, hts, hK, hN, hA, hlocks, hF⟩ := id C0
  have h := hf
  unfold f_X7_serves at h
  refine lv_aload_n hx hb dX7_serves_0 rfl (lv_at hl 0 rfl) ?_
  refine lv_aload_n hx hb dX7_serves_1 rfl (lv_at hl 0 rfl) ?_
  refine va_get (D := D) (ci := 7) (v := .ref a_M_page) (C := RX7) (T := TX7) (N := 19) hx hb hts inlX7 hown hK hP 0 rfl rfl 7 (by decide) (hts _ kw_88) (fun _ h9 => h9) rfl dX7_serves_2 ?_
  refine lv_iload_n hx hb dX7_serves_5 rfl (lv_at hl 1 rfl) ?_
  refine lv_aload_n hx hb dX7_serves_6 rfl (lv_at hl 0 rfl) ?_
  refine va_get (D := D) (ci := 7) (v := .ref a_M_page) (C := RX7) (T := TX7) (N := 19) hx hb hts inlX7 hown hK hP 0 rfl rfl 7 (by decide) (hts _ kw_88) (fun _ h9 => h9) rfl dX7_serves_7 ?_
  refine lv_iconst (v := (2 : Int32)) hx hb dX7_serves_10 (by decide) ?_
  refine va_iald hx hb hK hP 5 0 rfl rfl (show ¬ ((2 : Int32) < 0 ∨ 9 ≤ Int32.toNatClampNeg (2 : Int32)) by decide) dX7_serves_11 ?_
  obtain ⟨r2, hc1, h⟩ := oc_bind h
  refine kro_i (wc := (WD16 cI cC cZ a_M a_M_text a_M_plan a_M_read a_M_readPage a_M_page a_M_trial a_M_book a_M_kept a_M_isKept a_M_seenPoint a_M_seenSum a_M_seenWas M_thrown M_textSize M_place M_doings M_seen M_seed M_bestSet M_text M_plan M_read M_readPage M_page M_trial M_book M_kept M_isKept M_seenPoint M_seenSum M_seenWas)) C0 hP hD hS [0, 1, 2, 3, 4, 5, 6, 7, 8, 9, 10, 11, 12] rfl (kV (n := 3) (As := [.ref a_M_page, .int p1, .int (M_page (Int32.toNatClampNeg (2 : Int32)))]) (rest := []) (wc := (WD16 cI cC cZ a_M a_M_text a_M_plan a_M_read a_M_readPage a_M_page a_M_trial a_M_book a_M_kept a_M_isKept a_M_seenPoint a_M_seenSum a_M_seenWas M_thrown M_textSize M_place M_doings M_seen M_seed M_bestSet M_text M_plan M_read M_readPage M_page M_trial M_book M_kept M_isKept M_seenPoint M_seenSum M_seenWas)) (C := RX7) C0 hP hD hS [0, 1, 2, 3, 4, 5, 6, 7, 8, 9, 10, 11, 12] rfl (by decide) (c_X7_servedBy_page l D cI cC cZ a_M a_M_text a_M_plan a_M_read a_M_readPage a_M_page a_M_trial a_M_book a_M_kept a_M_isKept a_M_seenPoint a_M_seenSum a_M_seenWas H.size M_thrown M_textSize M_place M_doings M_seen M_seed M_bestSet M_text M_plan M_read M_readPage M_page M_trial M_book M_kept M_isKept M_seenPoint M_seenSum M_seenWas p1 (M_page (Int32.toNatClampNeg (2 : Int32))) r2 hc1) kw_553 kw_550 kw_551 kw_552 kw_5 (by decide +kernel) (by decide) rfl rfl rfl hl.1 rfl (Nat.le_of_ble_eq_true rfl) ⟨Nat.zero_le _, Nat.zero_le _⟩ dX7_serves_12) (fun H locs hP hS => ?_)
  refine lv_iconst (v := (1 : Int32)) hx hb dX7_serves_15 (by decide) ?_
  refine lv_aload_n hx hb dX7_serves_16 rfl (lv_at hl 0 rfl) ?_
  obtain ⟨r4, hc3, h⟩ := oc_bind h
  refine kro_i (wc := (WD16 cI cC cZ a_M a_M_text a_M_plan a_M_read a_M_readPage a_M_page a_M_trial a_M_book a_M_kept a_M_isKept a_M_seenPoint a_M_seenSum a_M_seenWas M_thrown M_textSize M_place M_doings M_seen M_seed M_bestSet M_text M_plan M_read M_readPage M_page M_trial M_book M_kept M_isKept M_seenPoint M_seenSum M_seenWas)) C0 hP hD hS [0, 1, 2, 3, 4, 5, 6, 7, 8, 9, 10, 11, 12] rfl (kV (n := 0) (As := []) (rest := [.int (1 : Int32), .int r2]) (wc := (WD16 cI cC cZ a_M a_M_text a_M_plan a_M_read a_M_readPage a_M_page a_M_trial a_M_book a_M_kept a_M_isKept a_M_seenPoint a_M_seenSum a_M_seenWas M_thrown M_textSize M_place M_doings M_seen M_seed M_bestSet M_text M_plan M_read M_readPage M_page M_trial M_book M_kept M_isKept M_seenPoint M_seenSum M_seenWas)) (C := RX7) C0 hP hD hS [0, 1, 2, 3, 4, 5, 6, 7, 8, 9, 10, 11, 12] rfl (by decide) (c_X7_points l D cI cC cZ a_M a_M_text a_M_plan a_M_read a_M_readPage a_M_page a_M_trial a_M_book a_M_kept a_M_isKept a_M_seenPoint a_M_seenSum a_M_seenWas H.size M_thrown M_textSize M_place M_doings M_seen M_seed M_bestSet M_text M_plan M_read M_readPage M_page M_trial M_book M_kept M_isKept M_seenPoint M_seenSum M_seenWas  r4 hc3) kw_361 kw_358 kw_359 kw_360 kw_5 (by decide +kernel) (by decide) rfl rfl rfl hl.1 rfl (Nat.le_of_ble_eq_true rfl) ⟨Nat.zero_le _, Nat.zero_le _⟩ dX7_serves_17) (fun H locs hP hS => ?_)
  refine lv_ishl hx hb dX7_serves_20 ?_
  refine lv_iconst (v := (1 : Int32)) hx hb dX7_serves_21 (by decide) ?_
  refine lv_isub hx hb dX7_serves_22 ?_
  refine lv_icmp_ne (tgt := 30) hx hb dX7_serves_23 (by decide) (fun c5 => ?_) (fun c5 => ?_)
  · have h := oc_f c5 h
    refine lv_iconst (v := (0 : Int32)) hx hb dX7_serves_30 (by decide) ?_
    cases h
    exact kret_i C0 hP hD hS (by decide) dX7_serves_31
  · have h := oc_t c5 h
    refine lv_iconst (v := (1 : Int32)) hx hb dX7_serves_26 (by decide) ?_
    refine lv_goto (tgt := 31) hx hb dX7_serves_27 (by decide) ?_
    cases h
    exact kret_i C0 hP hD hS (by decide) dX7_serves_31
abbrev rm_X7_priceOf : Room := { frames := 1, cells := 0, slots := 0, locals := 21 }
noncomputable def bk_X7_priceOf_4 (k4 : Int32 → Int32 → Option (Int32)) (M_plan : Nat → Int32) (p1 : Int32) (p2 : Int32) (p3 : Int32) : Option (Int32) := (f_X7_spots M_plan).bind (fun r2 => if r2 ≤ p3 then (some p2) else ((f_X7_has p1 p3).bind (fun r5 => if r5 = 0 then (nm_ (p2 + (0 : Int32)) (fun t7 => nm_ (p3 + (1 : Int32)) (fun t8 => k4 t7 t8))) else (if (((17 : Int32) + ((4 : Int32) * p3)) < 0 ∨ 78 ≤ Int32.toNatClampNeg ((17 : Int32) + ((4 : Int32) * p3))) then none else (nm_ (p2 + (M_plan (Int32.toNatClampNeg ((17 : Int32) + ((4 : Int32) * p3))))) (fun t10 => nm_ (p3 + (1 : Int32)) (fun t11 => k4 t10 t11)))))))
set_option maxHeartbeats 4000000 in
set_option maxRecDepth 100000 in
theorem wk_X7_priceOf_4 {p : Program} {l : Launch} {e : Env} {s : State} {m : MethodId} {args : Array Value} {below : List Frame} {meth : Method} {c : Code} {D : va_G} {cI cC cZ : ClassId} {A : Nat → Prop} {a_M a_M_text a_M_plan a_M_read a_M_readPage a_M_page a_M_trial a_M_book a_M_kept a_M_isKept a_M_seenPoint a_M_seenSum a_M_seenWas : Nat} {M_thrown : Int32} {M_textSize : Int32} {M_place : Int32} {M_doings : Int32} {M_seen : Int32} {M_seed : Int64} {M_bestSet : Int32} {M_text : Nat → Int32} {M_plan : Nat → Int32} {M_read : Nat → Int32} {M_readPage : Nat → Int32} {M_page : Nat → Int32} {M_trial : Nat → Int32} {M_book : Nat → Int32} {M_kept : Nat → Int32} {M_isKept : Nat → Int32} {M_seenPoint : Nat → Int32} {M_seenSum : Nat → Int32} {M_seenWas : Nat → Int32} {p1 : Int32} {p2 : Int32} {p3 : Int32} {k4 : Int32 → Int32 → Option (Int32)} {rr : Int32} (C0 : kC p s m args meth c D (kTY cI cC cZ) cX7_priceOf (some .int) 4 RX7 A) (hk4 : ∀ (p2_k : Int32) (p3_k : Int32), k4 p2_k p3_k = some rr → ∀ (H : Heap) (locs : List Loc), va_P D vwCl (WD16 cI cC cZ a_M a_M_text a_M_plan a_M_read a_M_readPage a_M_page a_M_trial a_M_book a_M_kept a_M_isKept a_M_seenPoint a_M_seenSum a_M_seenWas M_thrown M_textSize M_place M_doings M_seen M_seed M_bestSet M_text M_plan M_read M_readPage M_page M_trial M_book M_kept M_isKept M_seenPoint M_seenSum M_seenWas) H → va_D A (WD16 cI cC cZ a_M a_M_text a_M_plan a_M_read a_M_readPage a_M_page a_M_trial a_M_book a_M_kept a_M_isKept a_M_seenPoint a_M_seenSum a_M_seenWas M_thrown M_textSize M_place M_doings M_seen M_seed M_bestSet M_text M_plan M_read M_readPage M_page M_trial M_book M_kept M_isKept M_seenPoint M_seenSum M_seenWas) → va_S A s.heap H locs → ∀ ls : Array Slot, lv_has ls 4 [(0, .ref a_M), (1, .int p1), (2, .int p2_k), (3, .int p3_k)] → W p l e rm_X7_priceOf s m args below meth c H locs 0 0 (MQ below (kQI D (kTY cI cC cZ) A rr (WD16 cI cC cZ a_M a_M_text a_M_plan a_M_read a_M_readPage a_M_page a_M_trial a_M_book a_M_kept a_M_isKept a_M_seenPoint a_M_seenSum a_M_seenWas M_thrown M_textSize M_place M_doings M_seen M_seed M_bestSet M_text M_plan M_read M_readPage M_page M_trial M_book M_kept M_isKept M_seenPoint M_seenSum M_seenWas)) args s 0 0 A) (F0 m 4 ls [])) (h : bk_X7_priceOf_4 k4 M_plan p1 p2 p3 = some rr) {H : Heap} {locs : List Loc} (hP : va_P D vwCl (WD16 cI cC cZ a_M a_M_text a_M_plan a_M_read a_M_readPage a_M_page a_M_trial a_M_book a_M_kept a_M_isKept a_M_seenPoint a_M_seenSum a_M_seenWas M_thrown M_textSize M_place M_doings M_seen M_seed M_bestSet M_text M_plan M_read M_readPage M_page M_trial M_book M_kept M_isKept M_seenPoint M_seenSum M_seenWas) H) (hD : va_D A (WD16 cI cC cZ a_M a_M_text a_M_plan a_M_read a_M_readPage a_M_page a_M_trial a_M_book a_M_kept a_M_isKept a_M_seenPoint a_M_seenSum a_M_seenWas M_thrown M_textSize M_place M_doings M_seen M_seed M_bestSet M_text M_plan M_read M_readPage M_page M_trial M_book M_kept M_isKept M_seenPoint M_seenSum M_seenWas)) (hS : va_S A s.heap H locs) {ls : Array Slot} (hl : lv_has ls 4 [(0, .ref a_M), (1, .int p1), (2, .int p2), (3, .int p3)]) : W p l e rm_X7_priceOf s m args below meth c H locs 0 0 (MQ below (kQI D (kTY cI cC cZ) A rr (WD16 cI cC cZ a_M a_M_text a_M_plan a_M_read a_M_readPage a_M_page a_M_trial a_M_book a_M_kept a_M_isKept a_M_seenPoint a_M_seenSum a_M_seenWas M_thrown M_textSize M_place M_doings M_seen M_seed M_bestSet M_text M_plan M_read M_readPage M_page M_trial M_book M_kept M_isKept M_seenPoint M_seenSum M_seenWas)) args s 0 0 A) (F0 m 4 ls []) := by
  obtain ⟨hx, hb, hr, hml, hown, hts, hK, hN, hA, hlocks, hF⟩ := id C0
  unfold bk_X7_priceOf_4 at h
  refine lv_iload_n hx hb dX7_priceOf_4 rfl (lv_at hl 3 rfl) ?_
  refine lv_aload_n hx hb dX7_priceOf_5 rfl (lv_at hl 0 rfl) ?_
  obtain ⟨r2, hc1, h⟩ := oc_bind h
  refine kro_i (wc := (WD16 cI cC cZ a_M a_M_text a_M_plan a_M_read a_M_readPage a_M_page a_M_trial a_M_book a_M_kept a_M_isKept a_M_seenPoint a_M_seenSum a_M_seenWas M_thrown M_textSize M_place M_doings M_seen M_seed M_bestSet M_text M_plan M_read M_readPage M_page M_trial M_book M_kept M_isKept M_seenPoint M_seenSum M_seenWas)) C0 hP hD hS [0, 1, 2, 3, 4, 5, 6, 7, 8, 9, 10, 11, 12] rfl (kV (n := 0) (As := []) (rest := [.int p3]) (wc := (WD16 cI cC cZ a_M a_M_text a_M_plan a_M_read a_M_readPage a_M_page a_M_trial a_M_book a_M_kept a_M_isKept a_M_seenPoint a_M_seenSum a_M_seenWas M_thrown M_textSize M_place M_doings M_seen M_seed M_bestSet M_text M_plan M_read M_readPage M_page M_trial M_book M_kept M_isKept M_seenPoint M_seenSum M_seenWas)) (C := RX7) C0 hP hD hS [0, 1, 2, 3, 4, 5, 6, 7, 8, 9, 10, 11, 12] rfl (by decide) (c_X7_spots l D cI cC cZ a_M a_M_text a_M_plan a_M_read a_M_readPage a_M_page a_M_trial a_M_book a_M_kept a_M_isKept a_M_seenPoint a_M_seenSum a_M_seenWas H.size M_thrown M_textSize M_place M_doings M_seen M_seed M_bestSet M_text M_plan M_read M_readPage M_page M_trial M_book M_kept M_isKept M_seenPoint M_seenSum M_seenWas  r2 hc1) kw_280 kw_277 kw_278 kw_279 kw_5 (by decide +kernel) (by decide) rfl rfl rfl hl.1 rfl (Nat.le_of_ble_eq_true rfl) ⟨Nat.zero_le _, Nat.zero_le _⟩ dX7_priceOf_6) (fun H locs hP hS => ?_)
  refine lv_icmp_ge (tgt := 44) hx hb dX7_priceOf_9 (by decide) (fun c3 => ?_) (fun c3 => ?_)
  · have h := oc_t c3 h
    refine lv_iload_n hx hb dX7_priceOf_44 rfl (lv_at hl 2 rfl) ?_
    cases h
    exact kret_i C0 hP hD hS rfl dX7_priceOf_45
  · have h := oc_f c3 h
    refine lv_iload_n hx hb dX7_priceOf_12 rfl (lv_at hl 2 rfl) ?_
    refine lv_iload_n hx hb dX7_priceOf_13 rfl (lv_at hl 1 rfl) ?_
    refine lv_iload_n hx hb dX7_priceOf_14 rfl (lv_at hl 3 rfl) ?_
    obtain ⟨r5, hc4, h⟩ := oc_bind h
    refine kro_i (wc := (WD0 cI cC cZ)) C0 hP hD hS [] rfl (kS (n := 2) (As := [.int p1, .int p3]) (rest := [.int p2]) (wc := (WD0 cI cC cZ)) C0 hP hD hS [] rfl (by decide) (c_X7_has l D cI cC cZ  H.size  p1 p3 r5 hc4) kw_371 kw_369 kw_370 kw_5 (by decide +kernel) (by decide) rfl hl.1 rfl (Nat.le_of_ble_eq_true rfl) ⟨Nat.zero_le _, Nat.zero_le _⟩ dX7_priceOf_15) (fun H locs hP hS => ?_)
    refine lv_if_eq (tgt := 35) hx hb dX7_priceOf_18 (by decide) (fun c6 => ?_) (fun c6 => ?_)
    · have h := oc_t c6 h
      refine lv_iconst (v := (0 : Int32)) hx hb dX7_priceOf_35 (by decide) ?_
      refine lv_iadd hx hb dX7_priceOf_36 ?_
      refine lv_topi (fun t7 e_t7 => ?_)
      have h := oc_nm e_t7 h
      refine lv_istore_n (lv' := [(2, .int t7), (0, .ref a_M), (1, .int p1), (3, .int p3)]) hx hb dX7_priceOf_37 rfl hl (by decide) rfl (fun ls hl => ?_)
      obtain ⟨t8, e_t8⟩ : ∃ y : Int32, y = p3 + (1 : Int32) := ⟨_, rfl⟩
      have h := oc_nm e_t8 h
      refine lv_iinc (v := t8) (lv' := [(3, .int t8), (2, .int t7), (0, .ref a_M), (1, .int p1)]) hx hb dX7_priceOf_38 hl (k := 3) rfl (by rw [e_t8]; rfl) (by decide) rfl (fun ls hl => ?_)
      refine lv_goto (tgt := 4) hx hb dX7_priceOf_41 (by decide) ?_
      exact hk4 _ _ h _ _ hP hD hS _ (lv_sub hl [2, 3, 1, 0] rfl)
    · have h := oc_f c6 h
      refine lv_aload_n hx hb dX7_priceOf_21 rfl (lv_at hl 0 rfl) ?_
      refine va_get (D := D) (ci := 7) (v := .ref a_M_plan) (C := RX7) (T := TX7) (N := 19) hx hb hts inlX7 hown hK hP 0 rfl rfl 4 (by decide) (hts _ kw_85) (fun _ h9 => h9) rfl dX7_priceOf_22 ?_
      refine lv_bipush (v := (17 : Int32)) hx hb dX7_priceOf_25 (by decide) ?_
      refine lv_iconst (v := (4 : Int32)) hx hb dX7_priceOf_27 (by decide) ?_
      refine lv_iload_n hx hb dX7_priceOf_28 rfl (lv_at hl 3 rfl) ?_
      refine lv_imul hx hb dX7_priceOf_29 ?_
      refine lv_iadd hx hb dX7_priceOf_30 ?_
      obtain ⟨hb9, h⟩ := oc_else h
      refine va_iald hx hb hK hP 2 0 rfl rfl hb9 dX7_priceOf_31 ?_
      refine lv_goto (tgt := 36) hx hb dX7_priceOf_32 (by decide) ?_
      refine lv_iadd hx hb dX7_priceOf_36 ?_
      refine lv_topi (fun t10 e_t10 => ?_)
      have h := oc_nm e_t10 h
      refine lv_istore_n (lv' := [(2, .int t10), (0, .ref a_M), (1, .int p1), (3, .int p3)]) hx hb dX7_priceOf_37 rfl hl (by decide) rfl (fun ls hl => ?_)
      obtain ⟨t11, e_t11⟩ : ∃ y : Int32, y = p3 + (1 : Int32) := ⟨_, rfl⟩
      have h := oc_nm e_t11 h
      refine lv_iinc (v := t11) (lv' := [(3, .int t11), (2, .int t10), (0, .ref a_M), (1, .int p1)]) hx hb dX7_priceOf_38 hl (k := 3) rfl (by rw [e_t11]; rfl) (by decide) rfl (fun ls hl => ?_)
      refine lv_goto (tgt := 4) hx hb dX7_priceOf_41 (by decide) ?_
      exact hk4 _ _ h _ _ hP hD hS _ (lv_sub hl [2, 3, 1, 0] rfl)
noncomputable def lp_X7_priceOf_4  (M_plan : Nat → Int32) (p1 : Int32) (n : Nat) : Int32 → Int32 → Option (Int32) := Nat.rec (motive := fun _ => Int32 → Int32 → Option (Int32)) (fun _ _ => none) (fun _ ih => bk_X7_priceOf_4  ih M_plan p1) n
set_option maxHeartbeats 4000000 in
set_option maxRecDepth 100000 in
theorem wl_X7_priceOf_4 {p : Program} {l : Launch} {e : Env} {s : State} {m : MethodId} {args : Array Value} {below : List Frame} {meth : Method} {c : Code} {D : va_G} {cI cC cZ : ClassId} {A : Nat → Prop} {a_M a_M_text a_M_plan a_M_read a_M_readPage a_M_page a_M_trial a_M_book a_M_kept a_M_isKept a_M_seenPoint a_M_seenSum a_M_seenWas : Nat} {M_thrown : Int32} {M_textSize : Int32} {M_place : Int32} {M_doings : Int32} {M_seen : Int32} {M_seed : Int64} {M_bestSet : Int32} {M_text : Nat → Int32} {M_plan : Nat → Int32} {M_read : Nat → Int32} {M_readPage : Nat → Int32} {M_page : Nat → Int32} {M_trial : Nat → Int32} {M_book : Nat → Int32} {M_kept : Nat → Int32} {M_isKept : Nat → Int32} {M_seenPoint : Nat → Int32} {M_seenSum : Nat → Int32} {M_seenWas : Nat → Int32} {p1 : Int32}  {rr : Int32} (C0 : kC p s m args meth c D (kTY cI cC cZ) cX7_priceOf (some .int) 4 RX7 A)  : ∀ (n : Nat) (p2 : Int32) (p3 : Int32), lp_X7_priceOf_4  M_plan p1 n p2 p3 = some rr → ∀ (H : Heap) (locs : List Loc), va_P D vwCl (WD16 cI cC cZ a_M a_M_text a_M_plan a_M_read a_M_readPage a_M_page a_M_trial a_M_book a_M_kept a_M_isKept a_M_seenPoint a_M_seenSum a_M_seenWas M_thrown M_textSize M_place M_doings M_seen M_seed M_bestSet M_text M_plan M_read M_readPage M_page M_trial M_book M_kept M_isKept M_seenPoint M_seenSum M_seenWas) H → va_D A (WD16 cI cC cZ a_M a_M_text a_M_plan a_M_read a_M_readPage a_M_page a_M_trial a_M_book a_M_kept a_M_isKept a_M_seenPoint a_M_seenSum a_M_seenWas M_thrown M_textSize M_place M_doings M_seen M_seed M_bestSet M_text M_plan M_read M_readPage M_page M_trial M_book M_kept M_isKept M_seenPoint M_seenSum M_seenWas) → va_S A s.heap H locs → ∀ ls : Array Slot, lv_has ls 4 [(0, .ref a_M), (1, .int p1), (2, .int p2), (3, .int p3)] → W p l e rm_X7_priceOf s m args below meth c H locs 0 0 (MQ below (kQI D (kTY cI cC cZ) A rr (WD16 cI cC cZ a_M a_M_text a_M_plan a_M_read a_M_readPage a_M_page a_M_trial a_M_book a_M_kept a_M_isKept a_M_seenPoint a_M_seenSum a_M_seenWas M_thrown M_textSize M_place M_doings M_seen M_seed M_bestSet M_text M_plan M_read M_readPage M_page M_trial M_book M_kept M_isKept M_seenPoint M_seenSum M_seenWas)) args s 0 0 A) (F0 m 4 ls []) := by
  intro n
  induction n with
  | zero => intro p2 p3 h; cases (show (none : Option (Int32)) = some _ from h)
  | succ n ih =>
    intro p2 p3 h H locs hP hD hS ls hl
    exact wk_X7_priceOf_4 C0  (fun p2 p3 h H locs hP hD hS ls hl => ih p2 p3 h H locs hP hD hS ls hl) (show bk_X7_priceOf_4  (lp_X7_priceOf_4  M_plan p1 n) M_plan p1 p2 p3 = some _ from h) hP hD hS hl
noncomputable def f_X7_priceOf (M_plan : Nat → Int32) (p1 : Int32) : Option (Int32) := lp_X7_priceOf_4  M_plan p1 1000 (0 : Int32) (0 : Int32)
set_option maxHeartbeats 4000000 in
set_option maxRecDepth 100000 in
theorem c_X7_priceOf (l : Launch) (D : va_G) (cI cC cZ : ClassId) (a_M a_M_text a_M_plan a_M_read a_M_readPage a_M_page a_M_trial a_M_book a_M_kept a_M_isKept a_M_seenPoint a_M_seenSum a_M_seenWas : Nat) (sz : Nat) (M_thrown : Int32) (M_textSize : Int32) (M_place : Int32) (M_doings : Int32) (M_seen : Int32) (M_seed : Int64) (M_bestSet : Int32) (M_text : Nat → Int32) (M_plan : Nat → Int32) (M_read : Nat → Int32) (M_readPage : Nat → Int32) (M_page : Nat → Int32) (M_trial : Nat → Int32) (M_book : Nat → Int32) (M_kept : Nat → Int32) (M_isKept : Nat → Int32) (M_seenPoint : Nat → Int32) (M_seenSum : Nat → Int32) (M_seenWas : Nat → Int32) (p1 : Int32) (rr : Int32) (hf : f_X7_priceOf M_plan p1 = some rr) : kMet l yX7_priceOf cX7_priceOf 4 (some .int) rm_X7_priceOf D (kTY cI cC cZ) [.ref a_M, .int p1] (WD16 cI cC cZ a_M a_M_text a_M_plan a_M_read a_M_readPage a_M_page a_M_trial a_M_book a_M_kept a_M_isKept a_M_seenPoint a_M_seenSum a_M_seenWas M_thrown M_textSize M_place M_doings M_seen M_seed M_bestSet M_text M_plan M_read M_readPage M_page M_trial M_book M_kept M_isKept M_seenPoint M_seenSum M_seenWas) sz (kQI D (kTY cI cC cZ) (va_A (WD16 cI cC cZ a_M a_M_text a_M_plan a_M_read a_M_readPage a_M_page a_M_trial a_M_book a_M_kept a_M_isKept a_M_seenPoint a_M_seenSum a_M_seenWas M_thrown M_textSize M_place M_doings M_seen M_seed M_bestSet M_text M_plan M_read M_readPage M_page M_trial M_book M_kept M_isKept M_seenPoint M_seenSum M_seenWas) sz) rr (WD16 cI cC cZ a_M a_M_text a_M_plan a_M_read a_M_readPage a_M_page a_M_trial a_M_book a_M_kept a_M_isKept a_M_seenPoint a_M_seenSum a_M_seenWas M_thrown M_textSize M_place M_doings M_seen M_seed M_bestSet M_text M_plan M_read M_readPage M_page M_trial M_book M_kept M_isKept M_seenPoint M_seenSum M_seenWas)) := by
  refine kEnter (lv := [(0, .ref a_M), (1, .int p1)]) (own := RX7) (by decide) rfl (Nat.le_of_ble_eq_true rfl) rfl ?_
  intro p e s m below meth c hsz C0 hP hD hS ls hl
  generalize (va_A (WD16 cI cC cZ a_M a_M_text a_M_plan a_M_read a_M_readPage a_M_page a_M_trial a_M_book a_M_kept a_M_isKept a_M_seenPoint a_M_seenSum a_M_seenWas M_thrown M_textSize M_place M_doings M_seen M_seed M_bestSet M_text M_plan M_read M_readPage M_page M_trial M_book M_kept M_isKept M_seenPoint M_seenSum M_seenWas) sz) = A at C0 hD hS ⊢
  clear hsz hS
  obtain ⟨H, hHs⟩ : ∃ H : Heap, H = s.heap := ⟨_, rfl⟩
  have hS : va_S A s.heap H [] := by rw [hHs]; exact va_S.rf
  rw [← hHs] at hP ⊢
  obtain ⟨hx, hb, hr, hml, hown, hts, hK, hN, hA, hlocks, hF⟩ := id C0
  have h := hf
  unfold f_X7_priceOf at h
  refine lv_iconst (v := (0 : Int32)) hx hb dX7_priceOf_0 (by decide) ?_
  refine lv_istore_n (lv' := [(2, .int (0 : Int32)), (0, .ref a_M), (1, .int p1)]) hx hb dX7_priceOf_1 rfl hl (by decide) rfl (fun ls hl => ?_)
  refine lv_iconst (v := (0 : Int32)) hx hb dX7_priceOf_2 (by decide) ?_
  refine lv_istore_n (lv' := [(3, .int (0 : Int32)), (2, .int (0 : Int32)), (0, .ref a_M), (1, .int p1)]) hx hb dX7_priceOf_3 rfl hl (by decide) rfl (fun ls hl => ?_)
  exact wl_X7_priceOf_4 C0  _ _ _ h _ _ hP hD hS _ (lv_sub hl [2, 3, 1, 0] rfl)
abbrev rm_X7_floorOf : Room := { frames := 7, cells := 0, slots := 0, locals := 181 }
noncomputable def bk_X7_floorOf_53 (k5 : Int32 → Int32 → Option (Int32)) (M_plan : Nat → Int32) (M_page : Nat → Int32) (p1 : Int32) (p3 : Int32) : Option (Int32) := (f_X7_priceOf M_plan p3).bind (fun r2 => nm_ (p3 + (1 : Int32)) (fun t3 => k5 r2 t3))
set_option maxHeartbeats 4000000 in
set_option maxRecDepth 100000 in
theorem wk_X7_floorOf_53 {p : Program} {l : Launch} {e : Env} {s : State} {m : MethodId} {args : Array Value} {below : List Frame} {meth : Method} {c : Code} {D : va_G} {cI cC cZ : ClassId} {A : Nat → Prop} {a_M a_M_text a_M_plan a_M_read a_M_readPage a_M_page a_M_trial a_M_book a_M_kept a_M_isKept a_M_seenPoint a_M_seenSum a_M_seenWas : Nat} {M_thrown : Int32} {M_textSize : Int32} {M_place : Int32} {M_doings : Int32} {M_seen : Int32} {M_seed : Int64} {M_bestSet : Int32} {M_text : Nat → Int32} {M_plan : Nat → Int32} {M_read : Nat → Int32} {M_readPage : Nat → Int32} {M_page : Nat → Int32} {M_trial : Nat → Int32} {M_book : Nat → Int32} {M_kept : Nat → Int32} {M_isKept : Nat → Int32} {M_seenPoint : Nat → Int32} {M_seenSum : Nat → Int32} {M_seenWas : Nat → Int32} {p1 : Int32} {p3 : Int32} {k5 : Int32 → Int32 → Option (Int32)} {rr : Int32} (C0 : kC p s m args meth c D (kTY cI cC cZ) cX7_floorOf (some .int) 4 RX7 A) (hk5 : ∀ (p2_k : Int32) (p3_k : Int32), k5 p2_k p3_k = some rr → ∀ (H : Heap) (locs : List Loc), va_P D vwCl (WD16 cI cC cZ a_M a_M_text a_M_plan a_M_read a_M_readPage a_M_page a_M_trial a_M_book a_M_kept a_M_isKept a_M_seenPoint a_M_seenSum a_M_seenWas M_thrown M_textSize M_place M_doings M_seen M_seed M_bestSet M_text M_plan M_read M_readPage M_page M_trial M_book M_kept M_isKept M_seenPoint M_seenSum M_seenWas) H → va_D A (WD16 cI cC cZ a_M a_M_text a_M_plan a_M_read a_M_readPage a_M_page a_M_trial a_M_book a_M_kept a_M_isKept a_M_seenPoint a_M_seenSum a_M_seenWas M_thrown M_textSize M_place M_doings M_seen M_seed M_bestSet M_text M_plan M_read M_readPage M_page M_trial M_book M_kept M_isKept M_seenPoint M_seenSum M_seenWas) → va_S A s.heap H locs → ∀ ls : Array Slot, lv_has ls 4 [(0, .ref a_M), (1, .int p1), (2, .int p2_k), (3, .int p3_k)] → W p l e rm_X7_floorOf s m args below meth c H locs 0 0 (MQ below (kQI D (kTY cI cC cZ) A rr (WD16 cI cC cZ a_M a_M_text a_M_plan a_M_read a_M_readPage a_M_page a_M_trial a_M_book a_M_kept a_M_isKept a_M_seenPoint a_M_seenSum a_M_seenWas M_thrown M_textSize M_place M_doings M_seen M_seed M_bestSet M_text M_plan M_read M_readPage M_page M_trial M_book M_kept M_isKept M_seenPoint M_seenSum M_seenWas)) args s 0 0 A) (F0 m 5 ls [])) (h : bk_X7_floorOf_53 k5 M_plan M_page p1 p3 = some rr) {H : Heap} {locs : List Loc} (hP : va_P D vwCl (WD16 cI cC cZ a_M a_M_text a_M_plan a_M_read a_M_readPage a_M_page a_M_trial a_M_book a_M_kept a_M_isKept a_M_seenPoint a_M_seenSum a_M_seenWas M_thrown M_textSize M_place M_doings M_seen M_seed M_bestSet M_text M_plan M_read M_readPage M_page M_trial M_book M_kept M_isKept M_seenPoint M_seenSum M_seenWas) H) (hD : va_D A (WD16 cI cC cZ a_M a_M_text a_M_plan a_M_read a_M_readPage a_M_page a_M_trial a_M_book a_M_kept a_M_isKept a_M_seenPoint a_M_seenSum a_M_seenWas M_thrown M_textSize M_place M_doings M_seen M_seed M_bestSet M_text M_plan M_read M_readPage M_page M_trial M_book M_kept M_isKept M_seenPoint M_seenSum M_seenWas)) (hS : va_S A s.heap H locs) {ls : Array Slot} (hl : lv_has ls 4 [(0, .ref a_M), (1, .int p1), (3, .int p3)]) : W p l e rm_X7_floorOf s m args below meth c H locs 0 0 (MQ below (kQI D (kTY cI cC cZ) A rr (WD16 cI cC cZ a_M a_M_text a_M_plan a_M_read a_M_readPage a_M_page a_M_trial a_M_book a_M_kept a_M_isKept a_M_seenPoint a_M_seenSum a_M_seenWas M_thrown M_textSize M_place M_doings M_seen M_seed M_bestSet M_text M_plan M_read M_readPage M_page M_trial M_book M_kept M_isKept M_seenPoint M_seenSum M_seenWas)) args s 0 0 A) (F0 m 53 ls []) := by
  obtain ⟨hx, hb, hr, hml, hown, hts, hK, hN, hA, hlocks, hF⟩ := id C0
  unfold bk_X7_floorOf_53 at h
  refine lv_aload_n hx hb dX7_floorOf_53 rfl (lv_at hl 0 rfl) ?_
  refine lv_iload_n hx hb dX7_floorOf_54 rfl (lv_at hl 2 rfl) ?_
  obtain ⟨r2, hc1, h⟩ := oc_bind h
  refine kro_i (wc := (WD16 cI cC cZ a_M a_M_text a_M_plan a_M_read a_M_readPage a_M_page a_M_trial a_M_book a_M_kept a_M_isKept a_M_seenPoint a_M_seenSum a_M_seenWas M_thrown M_textSize M_place M_doings M_seen M_seed M_bestSet M_text M_plan M_read M_readPage M_page M_trial M_book M_kept M_isKept M_seenPoint M_seenSum M_seenWas)) C0 hP hD hS [0, 1, 2, 3, 4, 5, 6, 7, 8, 9, 10, 11, 12] rfl (kV (n := 1) (As := [.int p3]) (rest := []) (wc := (WD16 cI cC cZ a_M a_M_text a_M_plan a_M_read a_M_readPage a_M_page a_M_trial a_M_book a_M_kept a_M_isKept a_M_seenPoint a_M_seenSum a_M_seenWas M_thrown M_textSize M_place M_doings M_seen M_seed M_bestSet M_text M_plan M_read M_readPage M_page M_trial M_book M_kept M_isKept M_seenPoint M_seenSum M_seenWas)) (C := RX7) C0 hP hD hS [0, 1, 2, 3, 4, 5, 6, 7, 8, 9, 10, 11, 12] rfl (by decide) (c_X7_priceOf l D cI cC cZ a_M a_M_text a_M_plan a_M_read a_M_readPage a_M_page a_M_trial a_M_book a_M_kept a_M_isKept a_M_seenPoint a_M_seenSum a_M_seenWas H.size M_thrown M_textSize M_place M_doings M_seen M_seed M_bestSet M_text M_plan M_read M_readPage M_page M_trial M_book M_kept M_isKept M_seenPoint M_seenSum M_seenWas p3 r2 hc1) kw_400 kw_397 kw_398 kw_399 kw_5 (by decide +kernel) (by decide) rfl rfl rfl hl.1 rfl (Nat.le_of_ble_eq_true rfl) ⟨Nat.zero_le _, Nat.zero_le _⟩ dX7_floorOf_55) (fun H locs hP hS => ?_)
  refine lv_goto (tgt := 62) hx hb dX7_floorOf_58 (by decide) ?_
  refine lv_istore_n (lv' := [(2, .int r2), (0, .ref a_M), (1, .int p1), (3, .int p3)]) hx hb dX7_floorOf_62 rfl hl (by decide) rfl (fun ls hl => ?_)
  obtain ⟨t3, e_t3⟩ : ∃ y : Int32, y = p3 + (1 : Int32) := ⟨_, rfl⟩
  have h := oc_nm e_t3 h
  refine lv_iinc (v := t3) (lv' := [(3, .int t3), (2, .int r2), (0, .ref a_M), (1, .int p1)]) hx hb dX7_floorOf_63 hl (k := 3) rfl (by rw [e_t3]; rfl) (by decide) rfl (fun ls hl => ?_)
  refine lv_goto (tgt := 5) hx hb dX7_floorOf_66 (by decide) ?_
  exact hk5 _ _ h _ _ hP hD hS _ (lv_sub hl [2, 3, 1, 0] rfl)
noncomputable def bk_X7_floorOf_5 (k5 : Int32 → Int32 → Option (Int32)) (M_plan : Nat → Int32) (M_page : Nat → Int32) (p1 : Int32) (p2 : Int32) (p3 : Int32) : Option (Int32) := (f_X7_spots M_plan).bind (fun r2 => if ((1 : Int32) <<< (r2 &&& 31)) ≤ p3 then (some p2) else ((f_X7_sumBy M_plan p1 p3 (M_page (Int32.toNatClampNeg (2 : Int32)))).bind (fun r5 => if (((3 : Int32) + p1) < 0 ∨ 9 ≤ Int32.toNatClampNeg ((3 : Int32) + p1)) then none else (if r5 < (M_page (Int32.toNatClampNeg ((3 : Int32) + p1))) then (nm_ (p3 + (1 : Int32)) (fun t8 => k5 p2 t8)) else (if p2 = (-9 : Int32) then (bk_X7_floorOf_53 k5 M_plan M_page p1 p3) else ((f_X7_priceOf M_plan p3).bind (fun r11 => if p2 ≤ r11 then (nm_ (p3 + (1 : Int32)) (fun t13 => k5 p2 t13)) else (bk_X7_floorOf_53 k5 M_plan M_page p1 p3))))))))
set_option maxHeartbeats 4000000 in
set_option maxRecDepth 100000 in
theorem wk_X7_floorOf_5 {p : Program} {l : Launch} {e : Env} {s : State} {m : MethodId} {args : Array Value} {below : List Frame} {meth : Method} {c : Code} {D : va_G} {cI cC cZ : ClassId} {A : Nat → Prop} {a_M a_M_text a_M_plan a_M_read a_M_readPage a_M_page a_M_trial a_M_book a_M_kept a_M_isKept a_M_seenPoint a_M_seenSum a_M_seenWas : Nat} {M_thrown : Int32} {M_textSize : Int32} {M_place : Int32} {M_doings : Int32} {M_seen : Int32} {M_seed : Int64} {M_bestSet : Int32} {M_text : Nat → Int32} {M_plan : Nat → Int32} {M_read : Nat → Int32} {M_readPage : Nat → Int32} {M_page : Nat → Int32} {M_trial : Nat → Int32} {M_book : Nat → Int32} {M_kept : Nat → Int32} {M_isKept : Nat → Int32} {M_seenPoint : Nat → Int32} {M_seenSum : Nat → Int32} {M_seenWas : Nat → Int32} {p1 : Int32} {p2 : Int32} {p3 : Int32} {k5 : Int32 → Int32 → Option (Int32)} {rr : Int32} (C0 : kC p s m args meth c D (kTY cI cC cZ) cX7_floorOf (some .int) 4 RX7 A) (hk5 : ∀ (p2_k : Int32) (p3_k : Int32), k5 p2_k p3_k = some rr → ∀ (H : Heap) (locs : List Loc), va_P D vwCl (WD16 cI cC cZ a_M a_M_text a_M_plan a_M_read a_M_readPage a_M_page a_M_trial a_M_book a_M_kept a_M_isKept a_M_seenPoint a_M_seenSum a_M_seenWas M_thrown M_textSize M_place M_doings M_seen M_seed M_bestSet M_text M_plan M_read M_readPage M_page M_trial M_book M_kept M_isKept M_seenPoint M_seenSum M_seenWas) H → va_D A (WD16 cI cC cZ a_M a_M_text a_M_plan a_M_read a_M_readPage a_M_page a_M_trial a_M_book a_M_kept a_M_isKept a_M_seenPoint a_M_seenSum a_M_seenWas M_thrown M_textSize M_place M_doings M_seen M_seed M_bestSet M_text M_plan M_read M_readPage M_page M_trial M_book M_kept M_isKept M_seenPoint M_seenSum M_seenWas) → va_S A s.heap H locs → ∀ ls : Array Slot, lv_has ls 4 [(0, .ref a_M), (1, .int p1), (2, .int p2_k), (3, .int p3_k)] → W p l e rm_X7_floorOf s m args below meth c H locs 0 0 (MQ below (kQI D (kTY cI cC cZ) A rr (WD16 cI cC cZ a_M a_M_text a_M_plan a_M_read a_M_readPage a_M_page a_M_trial a_M_book a_M_kept a_M_isKept a_M_seenPoint a_M_seenSum a_M_seenWas M_thrown M_textSize M_place M_doings M_seen M_seed M_bestSet M_text M_plan M_read M_readPage M_page M_trial M_book M_kept M_isKept M_seenPoint M_seenSum M_seenWas)) args s 0 0 A) (F0 m 5 ls [])) (h : bk_X7_floorOf_5 k5 M_plan M_page p1 p2 p3 = some rr) {H : Heap} {locs : List Loc} (hP : va_P D vwCl (WD16 cI cC cZ a_M a_M_text a_M_plan a_M_read a_M_readPage a_M_page a_M_trial a_M_book a_M_kept a_M_isKept a_M_seenPoint a_M_seenSum a_M_seenWas M_thrown M_textSize M_place M_doings M_seen M_seed M_bestSet M_text M_plan M_read M_readPage M_page M_trial M_book M_kept M_isKept M_seenPoint M_seenSum M_seenWas) H) (hD : va_D A (WD16 cI cC cZ a_M a_M_text a_M_plan a_M_read a_M_readPage a_M_page a_M_trial a_M_book a_M_kept a_M_isKept a_M_seenPoint a_M_seenSum a_M_seenWas M_thrown M_textSize M_place M_doings M_seen M_seed M_bestSet M_text M_plan M_read M_readPage M_page M_trial M_book M_kept M_isKept M_seenPoint M_seenSum M_seenWas)) (hS : va_S A s.heap H locs) {ls : Array Slot} (hl : lv_has ls 4 [(0, .ref a_M), (1, .int p1), (2, .int p2), (3, .int p3)]) : W p l e rm_X7_floorOf s m args below meth c H locs 0 0 (MQ below (kQI D (kTY cI cC cZ) A rr (WD16 cI cC cZ a_M a_M_text a_M_plan a_M_read a_M_readPage a_M_page a_M_trial a_M_book a_M_kept a_M_isKept a_M_seenPoint a_M_seenSum a_M_seenWas M_thrown M_textSize M_place M_doings M_seen M_seed M_bestSet M_text M_plan M_read M_readPage M_page M_trial M_book M_kept M_isKept M_seenPoint M_seenSum M_seenWas)) args s 0 0 A) (F0 m 5 ls []) := by
  obtain ⟨hx, hb, hr, hml, hown, hts, hK, hN, hA, hlocks, hF⟩ := id C0
  unfold bk_X7_floorOf_5 at h
  refine lv_iload_n hx hb dX7_floorOf_5 rfl (lv_at hl 3 rfl) ?_
  refine lv_iconst (v := (1 : Int32)) hx hb dX7_floorOf_6 (by decide) ?_
  refine lv_aload_n hx hb dX7_floorOf_7 rfl (lv_at hl 0 rfl) ?_
  obtain ⟨r2, hc1, h⟩ := oc_bind h
  refine kro_i (wc := (WD16 cI cC cZ a_M a_M_text a_M_plan a_M_read a_M_readPage a_M_page a_M_trial a_M_book a_M_kept a_M_isKept a_M_seenPoint a_M_seenSum a_M_seenWas M_thrown M_textSize M_place M_doings M_seen M_seed M_bestSet M_text M_plan M_read M_readPage M_page M_trial M_book M_kept M_isKept M_seenPoint M_seenSum M_seenWas)) C0 hP hD hS [0, 1, 2, 3, 4, 5, 6, 7, 8, 9, 10, 11, 12] rfl (kV (n := 0) (As := []) (rest := [.int (1 : Int32), .int p3]) (wc := (WD16 cI cC cZ a_M a_M_text a_M_plan a_M_read a_M_readPage a_M_page a_M_trial a_M_book a_M_kept a_M_isKept a_M_seenPoint a_M_seenSum a_M_seenWas M_thrown M_textSize M_place M_doings M_seen M_seed M_bestSet M_text M_plan M_read M_readPage M_page M_trial M_book M_kept M_isKept M_seenPoint M_seenSum M_seenWas)) (C := RX7) C0 hP hD hS [0, 1, 2, 3, 4, 5, 6, 7, 8, 9, 10, 11, 12] rfl (by decide) (c_X7_spots l D cI cC cZ a_M a_M_text a_M_plan a_M_read a_M_readPage a_M_page a_M_trial a_M_book a_M_kept a_M_isKept a_M_seenPoint a_M_seenSum a_M_seenWas H.size M_thrown M_textSize M_place M_doings M_seen M_seed M_bestSet M_text M_plan M_read M_readPage M_page M_trial M_book M_kept M_isKept M_seenPoint M_seenSum M_seenWas  r2 hc1) kw_280 kw_277 kw_278 kw_279 kw_5 (by decide +kernel) (by decide) rfl rfl rfl hl.1 rfl (Nat.le_of_ble_eq_true rfl) ⟨Nat.zero_le _, Nat.zero_le _⟩ dX7_floorOf_8) (fun H locs hP hS => ?_)
  refine lv_ishl hx hb dX7_floorOf_11 ?_
  refine lv_icmp_ge (tgt := 69) hx hb dX7_floorOf_12 (by decide) (fun c3 => ?_) (fun c3 => ?_)
  · have h := oc_t c3 h
    refine lv_iload_n hx hb dX7_floorOf_69 rfl (lv_at hl 2 rfl) ?_
    cases h
    exact kret_i C0 hP hD hS rfl dX7_floorOf_70
  · have h := oc_f c3 h
    refine lv_aload_n hx hb dX7_floorOf_15 rfl (lv_at hl 0 rfl) ?_
    refine lv_iload_n hx hb dX7_floorOf_16 rfl (lv_at hl 1 rfl) ?_
    refine lv_iload_n hx hb dX7_floorOf_17 rfl (lv_at hl 3 rfl) ?_
    refine lv_aload_n hx hb dX7_floorOf_18 rfl (lv_at hl 0 rfl) ?_
    refine va_get (D := D) (ci := 7) (v := .ref a_M_page) (C := RX7) (T := TX7) (N := 19) hx hb hts inlX7 hown hK hP 0 rfl rfl 7 (by decide) (hts _ kw_88) (fun _ h9 => h9) rfl dX7_floorOf_19 ?_
    refine lv_iconst (v := (2 : Int32)) hx hb dX7_floorOf_22 (by decide) ?_
    refine va_iald hx hb hK hP 5 0 rfl rfl (show ¬ ((2 : Int32) < 0 ∨ 9 ≤ Int32.toNatClampNeg (2 : Int32)) by decide) dX7_floorOf_23 ?_
    obtain ⟨r5, hc4, h⟩ := oc_bind h
    refine kro_i (wc := (WD16 cI cC cZ a_M a_M_text a_M_plan a_M_read a_M_readPage a_M_page a_M_trial a_M_book a_M_kept a_M_isKept a_M_seenPoint a_M_seenSum a_M_seenWas M_thrown M_textSize M_place M_doings M_seen M_seed M_bestSet M_text M_plan M_read M_readPage M_page M_trial M_book M_kept M_isKept M_seenPoint M_seenSum M_seenWas)) C0 hP hD hS [0, 1, 2, 3, 4, 5, 6, 7, 8, 9, 10, 11, 12] rfl (kV (n := 3) (As := [.int p1, .int p3, .int (M_page (Int32.toNatClampNeg (2 : Int32)))]) (rest := []) (wc := (WD16 cI cC cZ a_M a_M_text a_M_plan a_M_read a_M_readPage a_M_page a_M_trial a_M_book a_M_kept a_M_isKept a_M_seenPoint a_M_seenSum a_M_seenWas M_thrown M_textSize M_place M_doings M_seen M_seed M_bestSet M_text M_plan M_read M_readPage M_page M_trial M_book M_kept M_isKept M_seenPoint M_seenSum M_seenWas)) (C := RX7) C0 hP hD hS [0, 1, 2, 3, 4, 5, 6, 7, 8, 9, 10, 11, 12] rfl (by decide) (c_X7_sumBy l D cI cC cZ a_M a_M_text a_M_plan a_M_read a_M_readPage a_M_page a_M_trial a_M_book a_M_kept a_M_isKept a_M_seenPoint a_M_seenSum a_M_seenWas H.size M_thrown M_textSize M_place M_doings M_seen M_seed M_bestSet M_text M_plan M_read M_readPage M_page M_trial M_book M_kept M_isKept M_seenPoint M_seenSum M_seenWas p1 p3 (M_page (Int32.toNatClampNeg (2 : Int32))) r5 hc4) kw_368 kw_365 kw_366 kw_367 kw_5 (by decide +kernel) (by decide) rfl rfl rfl hl.1 rfl (Nat.le_of_ble_eq_true rfl) ⟨Nat.zero_le _, Nat.zero_le _⟩ dX7_floorOf_24) (fun H locs hP hS => ?_)
    refine lv_aload_n hx hb dX7_floorOf_27 rfl (lv_at hl 0 rfl) ?_
    refine va_get (D := D) (ci := 7) (v := .ref a_M_page) (C := RX7) (T := TX7) (N := 19) hx hb hts inlX7 hown hK hP 0 rfl rfl 7 (by decide) (hts _ kw_88) (fun _ h9 => h9) rfl dX7_floorOf_28 ?_
    refine lv_iconst (v := (3 : Int32)) hx hb dX7_floorOf_31 (by decide) ?_
    refine lv_iload_n hx hb dX7_floorOf_32 rfl (lv_at hl 1 rfl) ?_
    refine lv_iadd hx hb dX7_floorOf_33 ?_
    obtain ⟨hb6, h⟩ := oc_else h
    refine va_iald hx hb hK hP 5 0 rfl rfl hb6 dX7_floorOf_34 ?_
    refine lv_icmp_lt (tgt := 63) hx hb dX7_floorOf_35 (by decide) (fun c7 => ?_) (fun c7 => ?_)
    · have h := oc_t c7 h
      obtain ⟨t8, e_t8⟩ : ∃ y : Int32, y = p3 + (1 : Int32) := ⟨_, rfl⟩
      have h := oc_nm e_t8 h
      refine lv_iinc (v := t8) (lv' := [(3, .int t8), (0, .ref a_M), (1, .int p1), (2, .int p2)]) hx hb dX7_floorOf_63 hl (k := 3) rfl (by rw [e_t8]; rfl) (by decide) rfl (fun ls hl => ?_)
      refine lv_goto (tgt := 5) hx hb dX7_floorOf_66 (by decide) ?_
      exact hk5 _ _ h _ _ hP hD hS _ (lv_sub hl [1, 2, 3, 0] rfl)
    · have h := oc_f c7 h
      refine lv_iload_n hx hb dX7_floorOf_38 rfl (lv_at hl 2 rfl) ?_
      refine lv_bipush (v := (-9 : Int32)) hx hb dX7_floorOf_39 (by decide) ?_
      refine lv_icmp_eq (tgt := 53) hx hb dX7_floorOf_41 (by decide) (fun c9 => ?_) (fun c9 => ?_)
      · have h := oc_t c9 h
        exact wk_X7_floorOf_53 C0 hk5 h hP hD hS (lv_sub hl [0, 1, 3] rfl)
      · have h := oc_f c9 h
        refine lv_aload_n hx hb dX7_floorOf_44 rfl (lv_at hl 0 rfl) ?_
        refine lv_iload_n hx hb dX7_floorOf_45 rfl (lv_at hl 3 rfl) ?_
        obtain ⟨r11, hc10, h⟩ := oc_bind h
        refine kro_i (wc := (WD16 cI cC cZ a_M a_M_text a_M_plan a_M_read a_M_readPage a_M_page a_M_trial a_M_book a_M_kept a_M_isKept a_M_seenPoint a_M_seenSum a_M_seenWas M_thrown M_textSize M_place M_doings M_seen M_seed M_bestSet M_text M_plan M_read M_readPage M_page M_trial M_book M_kept M_isKept M_seenPoint M_seenSum M_seenWas)) C0 hP hD hS [0, 1, 2, 3, 4, 5, 6, 7, 8, 9, 10, 11, 12] rfl (kV (n := 1) (As := [.int p3]) (rest := []) (wc := (WD16 cI cC cZ a_M a_M_text a_M_plan a_M_read a_M_readPage a_M_page a_M_trial a_M_book a_M_kept a_M_isKept a_M_seenPoint a_M_seenSum a_M_seenWas M_thrown M_textSize M_place M_doings M_seen M_seed M_bestSet M_text M_plan M_read M_readPage M_page M_trial M_book M_kept M_isKept M_seenPoint M_seenSum M_seenWas)) (C := RX7) C0 hP hD hS [0, 1, 2, 3, 4, 5, 6, 7, 8, 9, 10, 11, 12] rfl (by decide) (c_X7_priceOf l D cI cC cZ a_M a_M_text a_M_plan a_M_read a_M_readPage a_M_page a_M_trial a_M_book a_M_kept a_M_isKept a_M_seenPoint a_M_seenSum a_M_seenWas H.size M_thrown M_textSize M_place M_doings M_seen M_seed M_bestSet M_text M_plan M_read M_readPage M_page M_trial M_book M_kept M_isKept M_seenPoint M_seenSum M_seenWas p3 r11 hc10) kw_400 kw_397 kw_398 kw_399 kw_5 (by decide +kernel) (by decide) rfl rfl rfl hl.1 rfl (Nat.le_of_ble_eq_true rfl) ⟨Nat.zero_le _, Nat.zero_le _⟩ dX7_floorOf_46) (fun H locs hP hS => ?_)
        refine lv_iload_n hx hb dX7_floorOf_49 rfl (lv_at hl 2 rfl) ?_
        refine lv_icmp_ge (tgt := 61) hx hb dX7_floorOf_50 (by decide) (fun c12 => ?_) (fun c12 => ?_)
        · have h := oc_t c12 h
          refine lv_iload_n hx hb dX7_floorOf_61 rfl (lv_at hl 2 rfl) ?_
          refine lv_istore_n (lv' := [(2, .int p2), (0, .ref a_M), (1, .int p1), (3, .int p3)]) hx hb dX7_floorOf_62 rfl hl (by decide) rfl (fun ls hl => ?_)
          obtain ⟨t13, e_t13⟩ : ∃ y : Int32, y = p3 + (1 : Int32) := ⟨_, rfl⟩
          have h := oc_nm e_t13 h
          refine lv_iinc (v := t13) (lv' := [(3, .int t13), (2, .int p2), (0, .ref a_M), (1, .int p1)]) hx hb dX7_floorOf_63 hl (k := 3) rfl (by rw [e_t13]; rfl) (by decide) rfl (fun ls hl => ?_)
          refine lv_goto (tgt := 5) hx hb dX7_floorOf_66 (by decide) ?_
          exact hk5 _ _ h _ _ hP hD hS _ (lv_sub hl [2, 3, 1, 0] rfl)
        · have h := oc_f c12 h
          exact wk_X7_floorOf_53 C0 hk5 h hP hD hS (lv_sub hl [0, 1, 3] rfl)
noncomputable def lp_X7_floorOf_5  (M_plan : Nat → Int32) (M_page : Nat → Int32) (p1 : Int32) (n : Nat) : Int32 → Int32 → Option (Int32) := Nat.rec (motive := fun _ => Int32 → Int32 → Option (Int32)) (fun _ _ => none) (fun _ ih => bk_X7_floorOf_5  ih M_plan M_page p1) n
set_option maxHeartbeats 4000000 in
set_option maxRecDepth 100000 in
theorem wl_X7_floorOf_5 {p : Program} {l : Launch} {e : Env} {s : State} {m : MethodId} {args : Array Value} {below : List Frame} {meth : Method} {c : Code} {D : va_G} {cI cC cZ : ClassId} {A : Nat → Prop} {a_M a_M_text a_M_plan a_M_read a_M_readPage a_M_page a_M_trial a_M_book a_M_kept a_M_isKept a_M_seenPoint a_M_seenSum a_M_seenWas : Nat} {M_thrown : Int32} {M_textSize : Int32} {M_place : Int32} {M_doings : Int32} {M_seen : Int32} {M_seed : Int64} {M_bestSet : Int32} {M_text : Nat → Int32} {M_plan : Nat → Int32} {M_read : Nat → Int32} {M_readPage : Nat → Int32} {M_page : Nat → Int32} {M_trial : Nat → Int32} {M_book : Nat → Int32} {M_kept : Nat → Int32} {M_isKept : Nat → Int32} {M_seenPoint : Nat → Int32} {M_seenSum : Nat → Int32} {M_seenWas : Nat → Int32} {p1 : Int32}  {rr : Int32} (C0 : kC p s m args meth c D (kTY cI cC cZ) cX7_floorOf (some .int) 4 RX7 A)  : ∀ (n : Nat) (p2 : Int32) (p3 : Int32), lp_X7_floorOf_5  M_plan M_page p1 n p2 p3 = some rr → ∀ (H : Heap) (locs : List Loc), va_P D vwCl (WD16 cI cC cZ a_M a_M_text a_M_plan a_M_read a_M_readPage a_M_page a_M_trial a_M_book a_M_kept a_M_isKept a_M_seenPoint a_M_seenSum a_M_seenWas M_thrown M_textSize M_place M_doings M_seen M_seed M_bestSet M_text M_plan M_read M_readPage M_page M_trial M_book M_kept M_isKept M_seenPoint M_seenSum M_seenWas) H → va_D A (WD16 cI cC cZ a_M a_M_text a_M_plan a_M_read a_M_readPage a_M_page a_M_trial a_M_book a_M_kept a_M_isKept a_M_seenPoint a_M_seenSum a_M_seenWas M_thrown M_textSize M_place M_doings M_seen M_seed M_bestSet M_text M_plan M_read M_readPage M_page M_trial M_book M_kept M_isKept M_seenPoint M_seenSum M_seenWas) → va_S A s.heap H locs → ∀ ls : Array Slot, lv_has ls 4 [(0, .ref a_M), (1, .int p1), (2, .int p2), (3, .int p3)] → W p l e rm_X7_floorOf s m args below meth c H locs 0 0 (MQ below (kQI D (kTY cI cC cZ) A rr (WD16 cI cC cZ a_M a_M_text a_M_plan a_M_read a_M_readPage a_M_page a_M_trial a_M_book a_M_kept a_M_isKept a_M_seenPoint a_M_seenSum a_M_seenWas M_thrown M_textSize M_place M_doings M_seen M_seed M_bestSet M_text M_plan M_read M_readPage M_page M_trial M_book M_kept M_isKept M_seenPoint M_seenSum M_seenWas)) args s 0 0 A) (F0 m 5 ls []) := by
  intro n
  induction n with
  | zero => intro p2 p3 h; cases (show (none : Option (Int32)) = some _ from h)
  | succ n ih =>
    intro p2 p3 h H locs hP hD hS ls hl
    exact wk_X7_floorOf_5 C0  (fun p2 p3 h H locs hP hD hS ls hl => ih p2 p3 h H locs hP hD hS ls hl) (show bk_X7_floorOf_5  (lp_X7_floorOf_5  M_plan M_page p1 n) M_plan M_page p1 p2 p3 = some _ from h) hP hD hS hl
noncomputable def f_X7_floorOf (M_plan : Nat → Int32) (M_page : Nat → Int32) (p1 : Int32) : Option (Int32) := lp_X7_floorOf_5  M_plan M_page p1 1000 (-9 : Int32) (0 : Int32)
set_option maxHeartbeats 4000000 in
set_option maxRecDepth 100000 in
theorem c_X7_floorOf (l : Launch) (D : va_G) (cI cC cZ : ClassId) (a_M a_M_text a_M_plan a_M_read a_M_readPage a_M_page a_M_trial a_M_book a_M_kept a_M_isKept a_M_seenPoint a_M_seenSum a_M_seenWas : Nat) (sz : Nat) (M_thrown : Int32) (M_textSize : Int32) (M_place : Int32) (M_doings : Int32) (M_seen : Int32) (M_seed : Int64) (M_bestSet : Int32) (M_text : Nat → Int32) (M_plan : Nat → Int32) (M_read : Nat → Int32) (M_readPage : Nat → Int32) (M_page : Nat → Int32) (M_trial : Nat → Int32) (M_book : Nat → Int32) (M_kept : Nat → Int32) (M_isKept : Nat → Int32) (M_seenPoint : Nat → Int32) (M_seenSum : Nat → Int32) (M_seenWas : Nat → Int32) (p1 : Int32) (rr : Int32) (hf : f_X7_floorOf M_plan M_page p1 = some rr) : kMet l yX7_floorOf cX7_floorOf 4 (some .int) rm_X7_floorOf D (kTY cI cC cZ) [.ref a_M, .int p1] (WD16 cI cC cZ a_M a_M_text a_M_plan a_M_read a_M_readPage a_M_page a_M_trial a_M_book a_M_kept a_M_isKept a_M_seenPoint a_M_seenSum a_M_seenWas M_thrown M_textSize M_place M_doings M_seen M_seed M_bestSet M_text M_plan M_read M_readPage M_page M_trial M_book M_kept M_isKept M_seenPoint M_seenSum M_seenWas) sz (kQI D (kTY cI cC cZ) (va_A (WD16 cI cC cZ a_M a_M_text a_M_plan a_M_read a_M_readPage a_M_page a_M_trial a_M_book a_M_kept a_M_isKept a_M_seenPoint a_M_seenSum a_M_seenWas M_thrown M_textSize M_place M_doings M_seen M_seed M_bestSet M_text M_plan M_read M_readPage M_page M_trial M_book M_kept M_isKept M_seenPoint M_seenSum M_seenWas) sz) rr (WD16 cI cC cZ a_M a_M_text a_M_plan a_M_read a_M_readPage a_M_page a_M_trial a_M_book a_M_kept a_M_isKept a_M_seenPoint a_M_seenSum a_M_seenWas M_thrown M_textSize M_place M_doings M_seen M_seed M_bestSet M_text M_plan M_read M_readPage M_page M_trial M_book M_kept M_isKept M_seenPoint M_seenSum M_seenWas)) := by
  refine kEnter (lv := [(0, .ref a_M), (1, .int p1)]) (own := RX7) (by decide) rfl (Nat.le_of_ble_eq_true rfl) rfl ?_
  intro p e s m below meth c hsz C0 hP hD hS ls hl
  generalize (va_A (WD16 cI cC cZ a_M a_M_text a_M_plan a_M_read a_M_readPage a_M_page a_M_trial a_M_book a_M_kept a_M_isKept a_M_seenPoint a_M_seenSum a_M_seenWas M_thrown M_textSize M_place M_doings M_seen M_seed M_bestSet M_text M_plan M_read M_readPage M_page M_trial M_book M_kept M_isKept M_seenPoint M_seenSum M_seenWas) sz) = A at C0 hD hS ⊢
  clear hsz hS
  obtain ⟨H, hHs⟩ : ∃ H : Heap, H = s.heap := ⟨_, rfl⟩
  have hS : va_S A s.heap H [] := by rw [hHs]; exact va_S.rf
  rw [← hHs] at hP ⊢
  obtain ⟨hx, hb, hr, hml, hown, hts, hK, hN, hA, hlocks, hF⟩ := id C0
  have h := hf
  unfold f_X7_floorOf at h
  refine lv_bipush (v := (-9 : Int32)) hx hb dX7_floorOf_0 (by decide) ?_
  refine lv_istore_n (lv' := [(2, .int (-9 : Int32)), (0, .ref a_M), (1, .int p1)]) hx hb dX7_floorOf_2 rfl hl (by decide) rfl (fun ls hl => ?_)
  refine lv_iconst (v := (0 : Int32)) hx hb dX7_floorOf_3 (by decide) ?_
  refine lv_istore_n (lv' := [(3, .int (0 : Int32)), (2, .int (-9 : Int32)), (0, .ref a_M), (1, .int p1)]) hx hb dX7_floorOf_4 rfl hl (by decide) rfl (fun ls hl => ?_)
  exact wl_X7_floorOf_5 C0  _ _ _ h _ _ hP hD hS _ (lv_sub hl [2, 3, 1, 0] rfl)
abbrev rm_X7_spot : Room := { frames := 2, cells := 0, slots := 0, locals := 46 }
noncomputable def f_X7_spot (M_thrown : Int32) (M_plan : Nat → Int32) (M_page : Nat → Int32) (p1 : Int32) (p2 : Int32) : Option (Int32 × Int32) := (f_X7_noSpot M_plan p1).bind (fun r2 => if r2 = 0 then (if p2 = (4 : Int32) then (some (((((M_page (Int32.toNatClampNeg (0 : Int32))) >>> (p1 &&& 31)) &&& (1 : Int32)) + (((M_page (Int32.toNatClampNeg (1 : Int32))) >>> (p1 &&& 31)) &&& (1 : Int32))), (0 : Int32))) else ((f_X7_in (Int32.toInt64 p2) (0 : Int64) (3 : Int64)).bind (fun r6 => if r6 = 0 then (some ((-2 : Int32), (0 : Int32))) else (if ((((14 : Int32) + ((4 : Int32) * p1)) + p2) < 0 ∨ 78 ≤ Int32.toNatClampNeg (((14 : Int32) + ((4 : Int32) * p1)) + p2)) then none else (some ((M_plan (Int32.toNatClampNeg (((14 : Int32) + ((4 : Int32) * p1)) + p2))), (0 : Int32))))))) else (some ((-1 : Int32), (0 : Int32))))
set_option maxHeartbeats 4000000 in
set_option maxRecDepth 100000 in
theorem c_X7_spot (l : Launch) (D : va_G) (cI cC cZ : ClassId) (a_M a_M_text a_M_plan a_M_read a_M_readPage a_M_page a_M_trial a_M_book a_M_kept a_M_isKept a_M_seenPoint a_M_seenSum a_M_seenWas : Nat) (sz : Nat) (M_thrown : Int32) (M_textSize : Int32) (M_place : Int32) (M_doings : Int32) (M_seen : Int32) (M_seed : Int64) (M_bestSet : Int32) (M_text : Nat → Int32) (M_plan : Nat → Int32) (M_read : Nat → Int32) (M_readPage : Nat → Int32) (M_page : Nat → Int32) (M_trial : Nat → Int32) (M_book : Nat → Int32) (M_kept : Nat → Int32) (M_isKept : Nat → Int32) (M_seenPoint : Nat → Int32) (M_seenSum : Nat → Int32) (M_seenWas : Nat → Int32) (p1 : Int32) (p2 : Int32) (rr : Int32) (u_M_thrown : Int32) (hf : f_X7_spot M_thrown M_plan M_page p1 p2 = some (rr, u_M_thrown)) : kMet l yX7_spot cX7_spot 3 (some .int) rm_X7_spot D (kTY cI cC cZ) [.ref a_M, .int p1, .int p2] (WD16 cI cC cZ a_M a_M_text a_M_plan a_M_read a_M_readPage a_M_page a_M_trial a_M_book a_M_kept a_M_isKept a_M_seenPoint a_M_seenSum a_M_seenWas M_thrown M_textSize M_place M_doings M_seen M_seed M_bestSet M_text M_plan M_read M_readPage M_page M_trial M_book M_kept M_isKept M_seenPoint M_seenSum M_seenWas) sz (kQI D (kTY cI cC cZ) (va_A (WD16 cI cC cZ a_M a_M_text a_M_plan a_M_read a_M_readPage a_M_page a_M_trial a_M_book a_M_kept a_M_isKept a_M_seenPoint a_M_seenSum a_M_seenWas M_thrown M_textSize M_place M_doings M_seen M_seed M_bestSet M_text M_plan M_read M_readPage M_page M_trial M_book M_kept M_isKept M_seenPoint M_seenSum M_seenWas) sz) rr (WD16 cI cC cZ a_M a_M_text a_M_plan a_M_read a_M_readPage a_M_page a_M_trial a_M_book a_M_kept a_M_isKept a_M_seenPoint a_M_seenSum a_M_seenWas u_M_thrown M_textSize M_place M_doings M_seen M_seed M_bestSet M_text M_plan M_read M_readPage M_page M_trial M_book M_kept M_isKept M_seenPoint M_seenSum M_seenWas)) := by
  refine kEnter (lv := [(0, .ref a_M), (1, .int p1), (2, .int p2)]) (own := RX7) (by decide) rfl (Nat.le_of_ble_eq_true rfl) rfl ?_
  intro p e s m below meth c hsz C0 hP hD hS ls hl
  generalize (va_A (WD16 cI cC cZ a_M a_M_text a_M_plan a_M_read a_M_readPage a_M_page a_M_trial a_M_book a_M_kept a_M_isKept a_M_seenPoint a_M_seenSum a_M_seenWas M_thrown M_textSize M_place M_doings M_seen M_seed M_bestSet M_text M_plan M_read M_readPage M_page M_trial M_book M_kept M_isKept M_seenPoint M_seenSum M_seenWas) sz) = A at C0 hD hS ⊢
  clear hsz hS
  obtain ⟨H, hHs⟩ : ∃ H : Heap, H = s.heap := ⟨_, rfl⟩
  have hS : va_S A s.heap H [] := by rw [hHs]; exact va_S.rf
  rw [← hHs] at hP ⊢
  obtain ⟨hx, hb, hr, hml, hown, hts, hK, hN, hA, hlocks, hF⟩ := id C0
  have h := hf
  unfold f_X7_spot at h
  refine lv_aload_n hx hb dX7_spot_0 rfl (lv_at hl 0 rfl) ?_
  refine lv_iconst (v := (0 : Int32)) hx hb dX7_spot_1 (by decide) ?_
  refine va_put (D := D) (ci := 7) (v := .int (0 : Int32)) (ty := .int) (C := RX7) (T := TX7) (N := 19) hx hb hts inlX7 tyX7 tyX7_ok nmX7 hown hK hP hD hS 0 rfl rfl 0 (by decide) (hts _ kw_109) (fun _ h9 => h9) rfl (by decide +kernel) rfl rfl (Nat.le_of_ble_eq_true rfl) dX7_spot_2 (fun H locs hP hD hS => ?_)
  have hP : va_P D vwCl (WD16 cI cC cZ a_M a_M_text a_M_plan a_M_read a_M_readPage a_M_page a_M_trial a_M_book a_M_kept a_M_isKept a_M_seenPoint a_M_seenSum a_M_seenWas (0 : Int32) M_textSize M_place M_doings M_seen M_seed M_bestSet M_text M_plan M_read M_readPage M_page M_trial M_book M_kept M_isKept M_seenPoint M_seenSum M_seenWas) H := hP
  have hD : va_D A (WD16 cI cC cZ a_M a_M_text a_M_plan a_M_read a_M_readPage a_M_page a_M_trial a_M_book a_M_kept a_M_isKept a_M_seenPoint a_M_seenSum a_M_seenWas (0 : Int32) M_textSize M_place M_doings M_seen M_seed M_bestSet M_text M_plan M_read M_readPage M_page M_trial M_book M_kept M_isKept M_seenPoint M_seenSum M_seenWas) := hD
  refine lv_aload_n hx hb dX7_spot_5 rfl (lv_at hl 0 rfl) ?_
  refine lv_iload_n hx hb dX7_spot_6 rfl (lv_at hl 1 rfl) ?_
  obtain ⟨r2, hc1, h⟩ := oc_bind h
  refine kro_i (wc := (WD16 cI cC cZ a_M a_M_text a_M_plan a_M_read a_M_readPage a_M_page a_M_trial a_M_book a_M_kept a_M_isKept a_M_seenPoint a_M_seenSum a_M_seenWas (0 : Int32) M_textSize M_place M_doings M_seen M_seed M_bestSet M_text M_plan M_read M_readPage M_page M_trial M_book M_kept M_isKept M_seenPoint M_seenSum M_seenWas)) C0 hP hD hS [0, 1, 2, 3, 4, 5, 6, 7, 8, 9, 10, 11, 12] rfl (kV (n := 1) (As := [.int p1]) (rest := []) (wc := (WD16 cI cC cZ a_M a_M_text a_M_plan a_M_read a_M_readPage a_M_page a_M_trial a_M_book a_M_kept a_M_isKept a_M_seenPoint a_M_seenSum a_M_seenWas (0 : Int32) M_textSize M_place M_doings M_seen M_seed M_bestSet M_text M_plan M_read M_readPage M_page M_trial M_book M_kept M_isKept M_seenPoint M_seenSum M_seenWas)) (C := RX7) C0 hP hD hS [0, 1, 2, 3, 4, 5, 6, 7, 8, 9, 10, 11, 12] rfl (by decide) (c_X7_noSpot l D cI cC cZ a_M a_M_text a_M_plan a_M_read a_M_readPage a_M_page a_M_trial a_M_book a_M_kept a_M_isKept a_M_seenPoint a_M_seenSum a_M_seenWas H.size (0 : Int32) M_textSize M_place M_doings M_seen M_seed M_bestSet M_text M_plan M_read M_readPage M_page M_trial M_book M_kept M_isKept M_seenPoint M_seenSum M_seenWas p1 r2 hc1) kw_299 kw_296 kw_297 kw_298 kw_5 (by decide +kernel) (by decide) rfl rfl rfl hl.1 rfl (Nat.le_of_ble_eq_true rfl) ⟨Nat.zero_le _, Nat.zero_le _⟩ dX7_spot_7) (fun H locs hP hS => ?_)
  refine lv_if_eq (tgt := 15) hx hb dX7_spot_10 (by decide) (fun c3 => ?_) (fun c3 => ?_)
  · have h := oc_t c3 h
    refine lv_iload_n hx hb dX7_spot_15 rfl (lv_at hl 2 rfl) ?_
    refine lv_iconst (v := (4 : Int32)) hx hb dX7_spot_16 (by decide) ?_
    refine lv_icmp_ne (tgt := 42) hx hb dX7_spot_17 (by decide) (fun c4 => ?_) (fun c4 => ?_)
    · have h := oc_f c4 h
      refine lv_iload_n hx hb dX7_spot_42 rfl (lv_at hl 2 rfl) ?_
      refine lv_i2l hx hb dX7_spot_43 rfl ?_
      refine lv_lconst (v := (0 : Int64)) hx hb dX7_spot_44 (by decide) ?_
      refine lv_ldc2 (v := (3 : Int64)) hx hb hown (hts _ kw_295) dX7_spot_45 ?_
      obtain ⟨r6, hc5, h⟩ := oc_bind h
      refine kro_i (wc := (WD0 cI cC cZ)) C0 hP hD hS [] rfl (kS (n := 3) (As := [.long (Int32.toInt64 p2), .long (0 : Int64), .long (3 : Int64)]) (rest := []) (wc := (WD0 cI cC cZ)) C0 hP hD hS [] rfl (by decide) (c_X7_in l D cI cC cZ  H.size  (Int32.toInt64 p2) (0 : Int64) (3 : Int64) r6 hc5) kw_114 kw_112 kw_113 kw_5 (by decide +kernel) (by decide) rfl hl.1 rfl (Nat.le_of_ble_eq_true rfl) ⟨Nat.zero_le _, Nat.zero_le _⟩ dX7_spot_48) (fun H locs hP hS => ?_)
      refine lv_if_eq (tgt := 70) hx hb dX7_spot_51 (by decide) (fun c7 => ?_) (fun c7 => ?_)
      · have h := oc_t c7 h
        refine lv_bipush (v := (-2 : Int32)) hx hb dX7_spot_70 (by decide) ?_
        cases h
        exact kret_i C0 hP hD hS rfl dX7_spot_72
      · have h := oc_f c7 h
        refine lv_aload_n hx hb dX7_spot_54 rfl (lv_at hl 0 rfl) ?_
        refine va_get (D := D) (ci := 7) (v := .ref a_M_plan) (C := RX7) (T := TX7) (N := 19) hx hb hts inlX7 hown hK hP 0 rfl rfl 4 (by decide) (hts _ kw_85) (fun _ h9 => h9) rfl dX7_spot_55 ?_
        refine lv_bipush (v := (14 : Int32)) hx hb dX7_spot_58 (by decide) ?_
        refine lv_iconst (v := (4 : Int32)) hx hb dX7_spot_60 (by decide) ?_
        refine lv_iload_n hx hb dX7_spot_61 rfl (lv_at hl 1 rfl) ?_
        refine lv_imul hx hb dX7_spot_62 ?_
        refine lv_iadd hx hb dX7_spot_63 ?_
        refine lv_iload_n hx hb dX7_spot_64 rfl (lv_at hl 2 rfl) ?_
        refine lv_iadd hx hb dX7_spot_65 ?_
        obtain ⟨hb8, h⟩ := oc_else h
        refine va_iald hx hb hK hP 2 0 rfl rfl hb8 dX7_spot_66 ?_
        refine lv_goto (tgt := 72) hx hb dX7_spot_67 (by decide) ?_
        cases h
        exact kret_i C0 hP hD hS rfl dX7_spot_72
    · have h := oc_t c4 h
      refine lv_aload_n hx hb dX7_spot_20 rfl (lv_at hl 0 rfl) ?_
      refine va_get (D := D) (ci := 7) (v := .ref a_M_page) (C := RX7) (T := TX7) (N := 19) hx hb hts inlX7 hown hK hP 0 rfl rfl 7 (by decide) (hts _ kw_88) (fun _ h9 => h9) rfl dX7_spot_21 ?_
      refine lv_iconst (v := (0 : Int32)) hx hb dX7_spot_24 (by decide) ?_
      refine va_iald hx hb hK hP 5 0 rfl rfl (show ¬ ((0 : Int32) < 0 ∨ 9 ≤ Int32.toNatClampNeg (0 : Int32)) by decide) dX7_spot_25 ?_
      refine lv_iload_n hx hb dX7_spot_26 rfl (lv_at hl 1 rfl) ?_
      refine lv_ishr hx hb dX7_spot_27 ?_
      refine lv_iconst (v := (1 : Int32)) hx hb dX7_spot_28 (by decide) ?_
      refine lv_iand hx hb dX7_spot_29 ?_
      refine lv_aload_n hx hb dX7_spot_30 rfl (lv_at hl 0 rfl) ?_
      refine va_get (D := D) (ci := 7) (v := .ref a_M_page) (C := RX7) (T := TX7) (N := 19) hx hb hts inlX7 hown hK hP 0 rfl rfl 7 (by decide) (hts _ kw_88) (fun _ h9 => h9) rfl dX7_spot_31 ?_
      refine lv_iconst (v := (1 : Int32)) hx hb dX7_spot_34 (by decide) ?_
      refine va_iald hx hb hK hP 5 0 rfl rfl (show ¬ ((1 : Int32) < 0 ∨ 9 ≤ Int32.toNatClampNeg (1 : Int32)) by decide) dX7_spot_35 ?_
      refine lv_iload_n hx hb dX7_spot_36 rfl (lv_at hl 1 rfl) ?_
      refine lv_ishr hx hb dX7_spot_37 ?_
      refine lv_iconst (v := (1 : Int32)) hx hb dX7_spot_38 (by decide) ?_
      refine lv_iand hx hb dX7_spot_39 ?_
      refine lv_iadd hx hb dX7_spot_40 ?_
      cases h
      exact kret_i C0 hP hD hS rfl dX7_spot_41
  · have h := oc_f c3 h
    refine lv_iconst (v := (-1 : Int32)) hx hb dX7_spot_13 (by decide) ?_
    cases h
    exact kret_i C0 hP hD hS rfl dX7_spot_14
abbrev rm_X7_point : Room := { frames := 8, cells := 0, slots := 0, locals := 204 }
noncomputable def f_X7_point (M_thrown : Int32) (M_plan : Nat → Int32) (M_page : Nat → Int32) (p1 : Int32) (p2 : Int32) : Option (Int32 × Int32) := (f_X7_noPoint M_plan p1).bind (fun r2 => if r2 = 0 then ((f_X7_live M_page).bind (fun r5 => (f_X7_sumBy M_plan p1 r5 (M_page (Int32.toNatClampNeg (2 : Int32)))).bind (fun r7 => if p2 = (0 : Int32) then (if ((((46 : Int32) + ((2 : Int32) * p1)) + p2) < 0 ∨ 78 ≤ Int32.toNatClampNeg (((46 : Int32) + ((2 : Int32) * p1)) + p2)) then none else (some ((M_plan (Int32.toNatClampNeg (((46 : Int32) + ((2 : Int32) * p1)) + p2))), (0 : Int32)))) else (if p2 = (1 : Int32) then (if ((((46 : Int32) + ((2 : Int32) * p1)) + p2) < 0 ∨ 78 ≤ Int32.toNatClampNeg (((46 : Int32) + ((2 : Int32) * p1)) + p2)) then none else (some ((M_plan (Int32.toNatClampNeg (((46 : Int32) + ((2 : Int32) * p1)) + p2))), (0 : Int32)))) else (if p2 = (2 : Int32) then (if (((3 : Int32) + p1) < 0 ∨ 9 ≤ Int32.toNatClampNeg ((3 : Int32) + p1)) then none else (some ((M_page (Int32.toNatClampNeg ((3 : Int32) + p1))), (0 : Int32)))) else (if p2 = (3 : Int32) then (some (r7, (0 : Int32))) else (if p2 = (4 : Int32) then (if (((3 : Int32) + p1) < 0 ∨ 9 ≤ Int32.toNatClampNeg ((3 : Int32) + p1)) then none else (if r7 < (M_page (Int32.toNatClampNeg ((3 : Int32) + p1))) then (some ((0 : Int32), (0 : Int32))) else (some ((1 : Int32), (0 : Int32))))) else (if p2 = (5 : Int32) then ((f_X7_floorOf M_plan M_page p1).bind (fun r20 => some (r20, (0 : Int32)))) else (some ((-2 : Int32), (0 : Int32))))))))))) else (some ((-1 : Int32), (0 : Int32))))
set_option maxHeartbeats 4000000 in
set_option maxRecDepth 100000 in
theorem c_X7_point (l : Launch) (D : va_G) (cI cC cZ : ClassId) (a_M a_M_text a_M_plan a_M_read a_M_readPage a_M_page a_M_trial a_M_book a_M_kept a_M_isKept a_M_seenPoint a_M_seenSum a_M_seenWas : Nat) (sz : Nat) (M_thrown : Int32) (M_textSize : Int32) (M_place : Int32) (M_doings : Int32) (M_seen : Int32) (M_seed : Int64) (M_bestSet : Int32) (M_text : Nat → Int32) (M_plan : Nat → Int32) (M_read : Nat → Int32) (M_readPage : Nat → Int32) (M_page : Nat → Int32) (M_trial : Nat → Int32) (M_book : Nat → Int32) (M_kept : Nat → Int32) (M_isKept : Nat → Int32) (M_seenPoint : Nat → Int32) (M_seenSum : Nat → Int32) (M_seenWas : Nat → Int32) (p1 : Int32) (p2 : Int32) (rr : Int32) (u_M_thrown : Int32) (hf : f_X7_point M_thrown M_plan M_page p1 p2 = some (rr, u_M_thrown)) : kMet l yX7_point cX7_point 4 (some .int) rm_X7_point D (kTY cI cC cZ) [.ref a_M, .int p1, .int p2] (WD16 cI cC cZ a_M a_M_text a_M_plan a_M_read a_M_readPage a_M_page a_M_trial a_M_book a_M_kept a_M_isKept a_M_seenPoint a_M_seenSum a_M_seenWas M_thrown M_textSize M_place M_doings M_seen M_seed M_bestSet M_text M_plan M_read M_readPage M_page M_trial M_book M_kept M_isKept M_seenPoint M_seenSum M_seenWas) sz (kQI D (kTY cI cC cZ) (va_A (WD16 cI cC cZ a_M a_M_text a_M_plan a_M_read a_M_readPage a_M_page a_M_trial a_M_book a_M_kept a_M_isKept a_M_seenPoint a_M_seenSum a_M_seenWas M_thrown M_textSize M_place M_doings M_seen M_seed M_bestSet M_text M_plan M_read M_readPage M_page M_trial M_book M_kept M_isKept M_seenPoint M_seenSum M_seenWas) sz) rr (WD16 cI cC cZ a_M a_M_text a_M_plan a_M_read a_M_readPage a_M_page a_M_trial a_M_book a_M_kept a_M_isKept a_M_seenPoint a_M_seenSum a_M_seenWas u_M_thrown M_textSize M_place M_doings M_seen M_seed M_bestSet M_text M_plan M_read M_readPage M_page M_trial M_book M_kept M_isKept M_seenPoint M_seenSum M_seenWas)) := by
  refine kEnter (lv := [(0, .ref a_M), (1, .int p1), (2, .int p2)]) (own := RX7) (by decide) rfl (Nat.le_of_ble_eq_true rfl) rfl ?_
  intro p e s m below meth c hsz C0 hP hD hS ls hl
  generalize (va_A (WD16 cI cC cZ a_M a_M_text a_M_plan a_M_read a_M_readPage a_M_page a_M_trial a_M_book a_M_kept a_M_isKept a_M_seenPoint a_M_seenSum a_M_seenWas M_thrown M_textSize M_place M_doings M_seen M_seed M_bestSet M_text M_plan M_read M_readPage M_page M_trial M_book M_kept M_isKept M_seenPoint M_seenSum M_seenWas) sz) = A at C0 hD hS ⊢
  clear hsz hS
  obtain ⟨H, hHs⟩ : ∃ H : Heap, H = s.heap := ⟨_, rfl⟩
  have hS : va_S A s.heap H [] := by rw [hHs]; exact va_S.rf
  rw [← hHs] at hP ⊢
  obtain ⟨hx, hb, hr, hml, hown, hts, hK, hN, hA, hlocks, hF⟩ := id C0
  have h := hf
  unfold f_X7_point at h
  refine lv_aload_n hx hb dX7_point_0 rfl (lv_at hl 0 rfl) ?_
  refine lv_iconst (v := (0 : Int32)) hx hb dX7_point_1 (by decide) ?_
  refine va_put (D := D) (ci := 7) (v := .int (0 : Int32)) (ty := .int) (C := RX7) (T := TX7) (N := 19) hx hb hts inlX7 tyX7 tyX7_ok nmX7 hown hK hP hD hS 0 rfl rfl 0 (by decide) (hts _ kw_109) (fun _ h9 => h9) rfl (by decide +kernel) rfl rfl (Nat.le_of_ble_eq_true rfl) dX7_point_2 (fun H locs hP hD hS => ?_)
  have hP : va_P D vwCl (WD16 cI cC cZ a_M a_M_text a_M_plan a_M_read a_M_readPage a_M_page a_M_trial a_M_book a_M_kept a_M_isKept a_M_seenPoint a_M_seenSum a_M_seenWas (0 : Int32) M_textSize M_place M_doings M_seen M_seed M_bestSet M_text M_plan M_read M_readPage M_page M_trial M_book M_kept M_isKept M_seenPoint M_seenSum M_seenWas) H := hP
  have hD : va_D A (WD16 cI cC cZ a_M a_M_text a_M_plan a_M_read a_M_readPage a_M_page a_M_trial a_M_book a_M_kept a_M_isKept a_M_seenPoint a_M_seenSum a_M_seenWas (0 : Int32) M_textSize M_place M_doings M_seen M_seed M_bestSet M_text M_plan M_read M_readPage M_page M_trial M_book M_kept M_isKept M_seenPoint M_seenSum M_seenWas) := hD
  refine lv_aload_n hx hb dX7_point_5 rfl (lv_at hl 0 rfl) ?_
  refine lv_iload_n hx hb dX7_point_6 rfl (lv_at hl 1 rfl) ?_
  obtain ⟨r2, hc1, h⟩ := oc_bind h
  refine kro_i (wc := (WD16 cI cC cZ a_M a_M_text a_M_plan a_M_read a_M_readPage a_M_page a_M_trial a_M_book a_M_kept a_M_isKept a_M_seenPoint a_M_seenSum a_M_seenWas (0 : Int32) M_textSize M_place M_doings M_seen M_seed M_bestSet M_text M_plan M_read M_readPage M_page M_trial M_book M_kept M_isKept M_seenPoint M_seenSum M_seenWas)) C0 hP hD hS [0, 1, 2, 3, 4, 5, 6, 7, 8, 9, 10, 11, 12] rfl (kV (n := 1) (As := [.int p1]) (rest := []) (wc := (WD16 cI cC cZ a_M a_M_text a_M_plan a_M_read a_M_readPage a_M_page a_M_trial a_M_book a_M_kept a_M_isKept a_M_seenPoint a_M_seenSum a_M_seenWas (0 : Int32) M_textSize M_place M_doings M_seen M_seed M_bestSet M_text M_plan M_read M_readPage M_page M_trial M_book M_kept M_isKept M_seenPoint M_seenSum M_seenWas)) (C := RX7) C0 hP hD hS [0, 1, 2, 3, 4, 5, 6, 7, 8, 9, 10, 11, 12] rfl (by decide) (c_X7_noPoint l D cI cC cZ a_M a_M_text a_M_plan a_M_read a_M_readPage a_M_page a_M_trial a_M_book a_M_kept a_M_isKept a_M_seenPoint a_M_seenSum a_M_seenWas H.size (0 : Int32) M_textSize M_place M_doings M_seen M_seed M_bestSet M_text M_plan M_read M_readPage M_page M_trial M_book M_kept M_isKept M_seenPoint M_seenSum M_seenWas p1 r2 hc1) kw_357 kw_354 kw_355 kw_356 kw_5 (by decide +kernel) (by decide) rfl rfl rfl hl.1 rfl (Nat.le_of_ble_eq_true rfl) ⟨Nat.zero_le _, Nat.zero_le _⟩ dX7_point_7) (fun H locs hP hS => ?_)
  refine lv_if_eq (tgt := 15) hx hb dX7_point_10 (by decide) (fun c3 => ?_) (fun c3 => ?_)
  · have h := oc_t c3 h
    refine lv_aload_n hx hb dX7_point_15 rfl (lv_at hl 0 rfl) ?_
    refine lv_iload_n hx hb dX7_point_16 rfl (lv_at hl 1 rfl) ?_
    refine lv_aload_n hx hb dX7_point_17 rfl (lv_at hl 0 rfl) ?_
    refine va_get (D := D) (ci := 7) (v := .ref a_M_page) (C := RX7) (T := TX7) (N := 19) hx hb hts inlX7 hown hK hP 0 rfl rfl 7 (by decide) (hts _ kw_88) (fun _ h9 => h9) rfl dX7_point_18 ?_
    obtain ⟨r5, hc4, h⟩ := oc_bind h
    refine kro_i (wc := (WD17 cI cC cZ a_M_page M_page)) C0 hP hD hS [5] rfl (kS (n := 1) (As := [.ref a_M_page]) (rest := [.int p1, .ref a_M]) (wc := (WD17 cI cC cZ a_M_page M_page)) C0 hP hD hS [5] rfl (by decide) (c_X7_live l D cI cC cZ a_M_page H.size M_page  r5 hc4) kw_364 kw_362 kw_363 kw_5 (by decide +kernel) (by decide) rfl hl.1 rfl (Nat.le_of_ble_eq_true rfl) ⟨Nat.zero_le _, Nat.zero_le _⟩ dX7_point_21) (fun H locs hP hS => ?_)
    refine lv_aload_n hx hb dX7_point_24 rfl (lv_at hl 0 rfl) ?_
    refine va_get (D := D) (ci := 7) (v := .ref a_M_page) (C := RX7) (T := TX7) (N := 19) hx hb hts inlX7 hown hK hP 0 rfl rfl 7 (by decide) (hts _ kw_88) (fun _ h9 => h9) rfl dX7_point_25 ?_
    refine lv_iconst (v := (2 : Int32)) hx hb dX7_point_28 (by decide) ?_
    refine va_iald hx hb hK hP 5 0 rfl rfl (show ¬ ((2 : Int32) < 0 ∨ 9 ≤ Int32.toNatClampNeg (2 : Int32)) by decide) dX7_point_29 ?_
    obtain ⟨r7, hc6, h⟩ := oc_bind h
    refine kro_i (wc := (WD16 cI cC cZ a_M a_M_text a_M_plan a_M_read a_M_readPage a_M_page a_M_trial a_M_book a_M_kept a_M_isKept a_M_seenPoint a_M_seenSum a_M_seenWas (0 : Int32) M_textSize M_place M_doings M_seen M_seed M_bestSet M_text M_plan M_read M_readPage M_page M_trial M_book M_kept M_isKept M_seenPoint M_seenSum M_seenWas)) C0 hP hD hS [0, 1, 2, 3, 4, 5, 6, 7, 8, 9, 10, 11, 12] rfl (kV (n := 3) (As := [.int p1, .int r5, .int (M_page (Int32.toNatClampNeg (2 : Int32)))]) (rest := []) (wc := (WD16 cI cC cZ a_M a_M_text a_M_plan a_M_read a_M_readPage a_M_page a_M_trial a_M_book a_M_kept a_M_isKept a_M_seenPoint a_M_seenSum a_M_seenWas (0 : Int32) M_textSize M_place M_doings M_seen M_seed M_bestSet M_text M_plan M_read M_readPage M_page M_trial M_book M_kept M_isKept M_seenPoint M_seenSum M_seenWas)) (C := RX7) C0 hP hD hS [0, 1, 2, 3, 4, 5, 6, 7, 8, 9, 10, 11, 12] rfl (by decide) (c_X7_sumBy l D cI cC cZ a_M a_M_text a_M_plan a_M_read a_M_readPage a_M_page a_M_trial a_M_book a_M_kept a_M_isKept a_M_seenPoint a_M_seenSum a_M_seenWas H.size (0 : Int32) M_textSize M_place M_doings M_seen M_seed M_bestSet M_text M_plan M_read M_readPage M_page M_trial M_book M_kept M_isKept M_seenPoint M_seenSum M_seenWas p1 r5 (M_page (Int32.toNatClampNeg (2 : Int32))) r7 hc6) kw_368 kw_365 kw_366 kw_367 kw_5 (by decide +kernel) (by decide) rfl rfl rfl hl.1 rfl (Nat.le_of_ble_eq_true rfl) ⟨Nat.zero_le _, Nat.zero_le _⟩ dX7_point_30) (fun H locs hP hS => ?_)
    refine lv_istore_n (lv' := [(3, .int r7), (0, .ref a_M), (1, .int p1), (2, .int p2)]) hx hb dX7_point_33 rfl hl (by decide) rfl (fun ls hl => ?_)
    refine lv_iload_n hx hb dX7_point_34 rfl (lv_at hl 3 rfl) ?_
    by_cases c8 : p2 = (0 : Int32)
    · have h := oc_t c8 h
      refine lv_tableIn (tgt := 72) (off := 37) hx hb dX7_point_35 (by rw [c8]; decide) (by rw [c8]; decide) (by rw [c8]; rfl) (by decide) ?_
      refine lv_aload_n hx hb dX7_point_72 rfl (lv_at hl 1 rfl) ?_
      refine va_get (D := D) (ci := 7) (v := .ref a_M_plan) (C := RX7) (T := TX7) (N := 19) hx hb hts inlX7 hown hK hP 0 rfl rfl 4 (by decide) (hts _ kw_85) (fun _ h9 => h9) rfl dX7_point_73 ?_
      refine lv_bipush (v := (46 : Int32)) hx hb dX7_point_76 (by decide) ?_
      refine lv_iconst (v := (2 : Int32)) hx hb dX7_point_78 (by decide) ?_
      refine lv_iload_n hx hb dX7_point_79 rfl (lv_at hl 2 rfl) ?_
      refine lv_imul hx hb dX7_point_80 ?_
      refine lv_iadd hx hb dX7_point_81 ?_
      refine lv_iload_n hx hb dX7_point_82 rfl (lv_at hl 3 rfl) ?_
      refine lv_iadd hx hb dX7_point_83 ?_
      obtain ⟨hb9, h⟩ := oc_else h
      refine va_iald hx hb hK hP 2 0 rfl rfl hb9 dX7_point_84 ?_
      cases h
      exact kret_i C0 hP hD hS rfl dX7_point_85
    · have h := oc_f c8 h
      by_cases c10 : p2 = (1 : Int32)
      · have h := oc_t c10 h
        refine lv_tableIn (tgt := 72) (off := 37) hx hb dX7_point_35 (by rw [c10]; decide) (by rw [c10]; decide) (by rw [c10]; rfl) (by decide) ?_
        refine lv_aload_n hx hb dX7_point_72 rfl (lv_at hl 1 rfl) ?_
        refine va_get (D := D) (ci := 7) (v := .ref a_M_plan) (C := RX7) (T := TX7) (N := 19) hx hb hts inlX7 hown hK hP 0 rfl rfl 4 (by decide) (hts _ kw_85) (fun _ h9 => h9) rfl dX7_point_73 ?_
        refine lv_bipush (v := (46 : Int32)) hx hb dX7_point_76 (by decide) ?_
        refine lv_iconst (v := (2 : Int32)) hx hb dX7_point_78 (by decide) ?_
        refine lv_iload_n hx hb dX7_point_79 rfl (lv_at hl 2 rfl) ?_
        refine lv_imul hx hb dX7_point_80 ?_
        refine lv_iadd hx hb dX7_point_81 ?_
        refine lv_iload_n hx hb dX7_point_82 rfl (lv_at hl 3 rfl) ?_
        refine lv_iadd hx hb dX7_point_83 ?_
        obtain ⟨hb11, h⟩ := oc_else h
        refine va_iald hx hb hK hP 2 0 rfl rfl hb11 dX7_point_84 ?_
        cases h
        exact kret_i C0 hP hD hS rfl dX7_point_85
      · have h := oc_f c10 h
        by_cases c12 : p2 = (2 : Int32)
        · have h := oc_t c12 h
          refine lv_tableIn (tgt := 86) (off := 51) hx hb dX7_point_35 (by rw [c12]; decide) (by rw [c12]; decide) (by rw [c12]; rfl) (by decide) ?_
          refine lv_aload_n hx hb dX7_point_86 rfl (lv_at hl 1 rfl) ?_
          refine va_get (D := D) (ci := 7) (v := .ref a_M_page) (C := RX7) (T := TX7) (N := 19) hx hb hts inlX7 hown hK hP 0 rfl rfl 7 (by decide) (hts _ kw_88) (fun _ h9 => h9) rfl dX7_point_87 ?_
          refine lv_iconst (v := (3 : Int32)) hx hb dX7_point_90 (by decide) ?_
          refine lv_iload_n hx hb dX7_point_91 rfl (lv_at hl 2 rfl) ?_
          refine lv_iadd hx hb dX7_point_92 ?_
          obtain ⟨hb13, h⟩ := oc_else h
          refine va_iald hx hb hK hP 5 0 rfl rfl hb13 dX7_point_93 ?_
          cases h
          exact kret_i C0 hP hD hS rfl dX7_point_94
        · have h := oc_f c12 h
          by_cases c14 : p2 = (3 : Int32)
          · have h := oc_t c14 h
            refine lv_tableIn (tgt := 95) (off := 60) hx hb dX7_point_35 (by rw [c14]; decide) (by rw [c14]; decide) (by rw [c14]; rfl) (by decide) ?_
            refine lv_iload_n hx hb dX7_point_95 rfl (lv_at hl 0 rfl) ?_
            cases h
            exact kret_i C0 hP hD hS rfl dX7_point_96
          · have h := oc_f c14 h
            by_cases c15 : p2 = (4 : Int32)
            · have h := oc_t c15 h
              refine lv_tableIn (tgt := 97) (off := 62) hx hb dX7_point_35 (by rw [c15]; decide) (by rw [c15]; decide) (by rw [c15]; rfl) (by decide) ?_
              refine lv_iload_n hx hb dX7_point_97 rfl (lv_at hl 0 rfl) ?_
              refine lv_aload_n hx hb dX7_point_98 rfl (lv_at hl 1 rfl) ?_
              refine va_get (D := D) (ci := 7) (v := .ref a_M_page) (C := RX7) (T := TX7) (N := 19) hx hb hts inlX7 hown hK hP 0 rfl rfl 7 (by decide) (hts _ kw_88) (fun _ h9 => h9) rfl dX7_point_99 ?_
              refine lv_iconst (v := (3 : Int32)) hx hb dX7_point_102 (by decide) ?_
              refine lv_iload_n hx hb dX7_point_103 rfl (lv_at hl 2 rfl) ?_
              refine lv_iadd hx hb dX7_point_104 ?_
              obtain ⟨hb16, h⟩ := oc_else h
              refine va_iald hx hb hK hP 5 0 rfl rfl hb16 dX7_point_105 ?_
              refine lv_icmp_lt (tgt := 113) hx hb dX7_point_106 (by decide) (fun c17 => ?_) (fun c17 => ?_)
              · have h := oc_t c17 h
                refine lv_iconst (v := (0 : Int32)) hx hb dX7_point_113 (by decide) ?_
                cases h
                exact kret_i C0 hP hD hS rfl dX7_point_114
              · have h := oc_f c17 h
                refine lv_iconst (v := (1 : Int32)) hx hb dX7_point_109 (by decide) ?_
                refine lv_goto (tgt := 114) hx hb dX7_point_110 (by decide) ?_
                cases h
                exact kret_i C0 hP hD hS rfl dX7_point_114
            · have h := oc_f c15 h
              by_cases c18 : p2 = (5 : Int32)
              · have h := oc_t c18 h
                refine lv_tableIn (tgt := 115) (off := 80) hx hb dX7_point_35 (by rw [c18]; decide) (by rw [c18]; decide) (by rw [c18]; rfl) (by decide) ?_
                refine lv_aload_n hx hb dX7_point_115 rfl (lv_at hl 1 rfl) ?_
                refine lv_iload_n hx hb dX7_point_116 rfl (lv_at hl 2 rfl) ?_
                obtain ⟨r20, hc19, h⟩ := oc_bind h
                refine kro_i (wc := (WD16 cI cC cZ a_M a_M_text a_M_plan a_M_read a_M_readPage a_M_page a_M_trial a_M_book a_M_kept a_M_isKept a_M_seenPoint a_M_seenSum a_M_seenWas (0 : Int32) M_textSize M_place M_doings M_seen M_seed M_bestSet M_text M_plan M_read M_readPage M_page M_trial M_book M_kept M_isKept M_seenPoint M_seenSum M_seenWas)) C0 hP hD hS [0, 1, 2, 3, 4, 5, 6, 7, 8, 9, 10, 11, 12] rfl (kV (n := 1) (As := [.int p1]) (rest := []) (wc := (WD16 cI cC cZ a_M a_M_text a_M_plan a_M_read a_M_readPage a_M_page a_M_trial a_M_book a_M_kept a_M_isKept a_M_seenPoint a_M_seenSum a_M_seenWas (0 : Int32) M_textSize M_place M_doings M_seen M_seed M_bestSet M_text M_plan M_read M_readPage M_page M_trial M_book M_kept M_isKept M_seenPoint M_seenSum M_seenWas)) (C := RX7) C0 hP hD hS [0, 1, 2, 3, 4, 5, 6, 7, 8, 9, 10, 11, 12] rfl (by decide) (c_X7_floorOf l D cI cC cZ a_M a_M_text a_M_plan a_M_read a_M_readPage a_M_page a_M_trial a_M_book a_M_kept a_M_isKept a_M_seenPoint a_M_seenSum a_M_seenWas H.size (0 : Int32) M_textSize M_place M_doings M_seen M_seed M_bestSet M_text M_plan M_read M_readPage M_page M_trial M_book M_kept M_isKept M_seenPoint M_seenSum M_seenWas p1 r20 hc19) kw_396 kw_393 kw_394 kw_395 kw_5 (by decide +kernel) (by decide) rfl rfl rfl hl.1 rfl (Nat.le_of_ble_eq_true rfl) ⟨Nat.zero_le _, Nat.zero_le _⟩ dX7_point_117) (fun H locs hP hS => ?_)
                cases h
                exact kret_i C0 hP hD hS rfl dX7_point_120
              · have h := oc_f c18 h
                refine lv_tableOut (tgt := 121) hx hb dX7_point_35 (by have n0 := lv_neT c8 (a := 0) (by decide); have n1 := lv_neT c10 (a := 1) (by decide); have n2 := lv_neT c12 (a := 2) (by decide); have n3 := lv_neT c14 (a := 3) (by decide); have n4 := lv_neT c15 (a := 4) (by decide); have n5 := lv_neT c18 (a := 5) (by decide); omega) (by decide) ?_
                refine lv_bipush (v := (-2 : Int32)) hx hb dX7_point_121 (by decide) ?_
                cases h
                exact kret_i C0 hP hD hS rfl dX7_point_123
  · have h := oc_f c3 h
    refine lv_iconst (v := (-1 : Int32)) hx hb dX7_point_13 (by decide) ?_
    cases h
    exact kret_i C0 hP hD hS rfl dX7_point_14
abbrev rm_X7_light : Room := { frames := 6, cells := 0, slots := 0, locals := 156 }
noncomputable def f_X7_light (M_thrown : Int32) (M_plan : Nat → Int32) (M_page : Nat → Int32) (p1 : Int32) (p2 : Int32) : Option (Int32 × Int32) := (f_X7_noSpot M_plan p1).bind (fun r2 => if r2 = 0 then ((f_X7_noPoint M_plan p2).bind (fun r5 => if r5 = 0 then ((f_X7_lightBy M_plan p1 p2 (M_page (Int32.toNatClampNeg (2 : Int32)))).bind (fun r8 => some (r8, (0 : Int32)))) else (some ((-1 : Int32), (0 : Int32))))) else (some ((-1 : Int32), (0 : Int32))))
set_option maxHeartbeats 4000000 in
set_option maxRecDepth 100000 in
theorem c_X7_light (l : Launch) (D : va_G) (cI cC cZ : ClassId) (a_M a_M_text a_M_plan a_M_read a_M_readPage a_M_page a_M_trial a_M_book a_M_kept a_M_isKept a_M_seenPoint a_M_seenSum a_M_seenWas : Nat) (sz : Nat) (M_thrown : Int32) (M_textSize : Int32) (M_place : Int32) (M_doings : Int32) (M_seen : Int32) (M_seed : Int64) (M_bestSet : Int32) (M_text : Nat → Int32) (M_plan : Nat → Int32) (M_read : Nat → Int32) (M_readPage : Nat → Int32) (M_page : Nat → Int32) (M_trial : Nat → Int32) (M_book : Nat → Int32) (M_kept : Nat → Int32) (M_isKept : Nat → Int32) (M_seenPoint : Nat → Int32) (M_seenSum : Nat → Int32) (M_seenWas : Nat → Int32) (p1 : Int32) (p2 : Int32) (rr : Int32) (u_M_thrown : Int32) (hf : f_X7_light M_thrown M_plan M_page p1 p2 = some (rr, u_M_thrown)) : kMet l yX7_light cX7_light 3 (some .int) rm_X7_light D (kTY cI cC cZ) [.ref a_M, .int p1, .int p2] (WD16 cI cC cZ a_M a_M_text a_M_plan a_M_read a_M_readPage a_M_page a_M_trial a_M_book a_M_kept a_M_isKept a_M_seenPoint a_M_seenSum a_M_seenWas M_thrown M_textSize M_place M_doings M_seen M_seed M_bestSet M_text M_plan M_read M_readPage M_page M_trial M_book M_kept M_isKept M_seenPoint M_seenSum M_seenWas) sz (kQI D (kTY cI cC cZ) (va_A (WD16 cI cC cZ a_M a_M_text a_M_plan a_M_read a_M_readPage a_M_page a_M_trial a_M_book a_M_kept a_M_isKept a_M_seenPoint a_M_seenSum a_M_seenWas M_thrown M_textSize M_place M_doings M_seen M_seed M_bestSet M_text M_plan M_read M_readPage M_page M_trial M_book M_kept M_isKept M_seenPoint M_seenSum M_seenWas) sz) rr (WD16 cI cC cZ a_M a_M_text a_M_plan a_M_read a_M_readPage a_M_page a_M_trial a_M_book a_M_kept a_M_isKept a_M_seenPoint a_M_seenSum a_M_seenWas u_M_thrown M_textSize M_place M_doings M_seen M_seed M_bestSet M_text M_plan M_read M_readPage M_page M_trial M_book M_kept M_isKept M_seenPoint M_seenSum M_seenWas)) := by
  refine kEnter (lv := [(0, .ref a_M), (1, .int p1), (2, .int p2)]) (own := RX7) (by decide) rfl (Nat.le_of_ble_eq_true rfl) rfl ?_
  intro p e s m below meth c hsz C0 hP hD hS ls hl
  generalize (va_A (WD16 cI cC cZ a_M a_M_text a_M_plan a_M_read a_M_readPage a_M_page a_M_trial a_M_book a_M_kept a_M_isKept a_M_seenPoint a_M_seenSum a_M_seenWas M_thrown M_textSize M_place M_doings M_seen M_seed M_bestSet M_text M_plan M_read M_readPage M_page M_trial M_book M_kept M_isKept M_seenPoint M_seenSum M_seenWas) sz) = A at C0 hD hS ⊢
  clear hsz hS
  obtain ⟨H, hHs⟩ : ∃ H : Heap, H = s.heap := ⟨_, rfl⟩
  have hS : va_S A s.heap H [] := by rw [hHs]; exact va_S.rf
  rw [← hHs] at hP ⊢
  obtain ⟨hx, hb, hr, hml, hown, hts, hK, hN, hA, hlocks, hF⟩ := id C0
  have h := hf
  unfold f_X7_light at h
  refine lv_aload_n hx hb dX7_light_0 rfl (lv_at hl 0 rfl) ?_
  refine lv_iconst (v := (0 : Int32)) hx hb dX7_light_1 (by decide) ?_
  refine va_put (D := D) (ci := 7) (v := .int (0 : Int32)) (ty := .int) (C := RX7) (T := TX7) (N := 19) hx hb hts inlX7 tyX7 tyX7_ok nmX7 hown hK hP hD hS 0 rfl rfl 0 (by decide) (hts _ kw_109) (fun _ h9 => h9) rfl (by decide +kernel) rfl rfl (Nat.le_of_ble_eq_true rfl) dX7_light_2 (fun H locs hP hD hS => ?_)
  have hP : va_P D vwCl (WD16 cI cC cZ a_M a_M_text a_M_plan a_M_read a_M_readPage a_M_page a_M_trial a_M_book a_M_kept a_M_isKept a_M_seenPoint a_M_seenSum a_M_seenWas (0 : Int32) M_textSize M_place M_doings M_seen M_seed M_bestSet M_text M_plan M_read M_readPage M_page M_trial M_book M_kept M_isKept M_seenPoint M_seenSum M_seenWas) H := hP
  have hD : va_D A (WD16 cI cC cZ a_M a_M_text a_M_plan a_M_read a_M_readPage a_M_page a_M_trial a_M_book a_M_kept a_M_isKept a_M_seenPoint a_M_seenSum a_M_seenWas (0 : Int32) M_textSize M_place M_doings M_seen M_seed M_bestSet M_text M_plan M_read M_readPage M_page M_trial M_book M_kept M_isKept M_seenPoint M_seenSum M_seenWas) := hD
  refine lv_aload_n hx hb dX7_light_5 rfl (lv_at hl 0 rfl) ?_
  refine lv_iload_n hx hb dX7_light_6 rfl (lv_at hl 1 rfl) ?_
  obtain ⟨r2, hc1, h⟩ := oc_bind h
  refine kro_i (wc := (WD16 cI cC cZ a_M a_M_text a_M_plan a_M_read a_M_readPage a_M_page a_M_trial a_M_book a_M_kept a_M_isKept a_M_seenPoint a_M_seenSum a_M_seenWas (0 : Int32) M_textSize M_place M_doings M_seen M_seed M_bestSet M_text M_plan M_read M_readPage M_page M_trial M_book M_kept M_isKept M_seenPoint M_seenSum M_seenWas)) C0 hP hD hS [0, 1, 2, 3, 4, 5, 6, 7, 8, 9, 10, 11, 12] rfl (kV (n := 1) (As := [.int p1]) (rest := []) (wc := (WD16 cI cC cZ a_M a_M_text a_M_plan a_M_read a_M_readPage a_M_page a_M_trial a_M_book a_M_kept a_M_isKept a_M_seenPoint a_M_seenSum a_M_seenWas (0 : Int32) M_textSize M_place M_doings M_seen M_seed M_bestSet M_text M_plan M_read M_readPage M_page M_trial M_book M_kept M_isKept M_seenPoint M_seenSum M_seenWas)) (C := RX7) C0 hP hD hS [0, 1, 2, 3, 4, 5, 6, 7, 8, 9, 10, 11, 12] rfl (by decide) (c_X7_noSpot l D cI cC cZ a_M a_M_text a_M_plan a_M_read a_M_readPage a_M_page a_M_trial a_M_book a_M_kept a_M_isKept a_M_seenPoint a_M_seenSum a_M_seenWas H.size (0 : Int32) M_textSize M_place M_doings M_seen M_seed M_bestSet M_text M_plan M_read M_readPage M_page M_trial M_book M_kept M_isKept M_seenPoint M_seenSum M_seenWas p1 r2 hc1) kw_299 kw_296 kw_297 kw_298 kw_5 (by decide +kernel) (by decide) rfl rfl rfl hl.1 rfl (Nat.le_of_ble_eq_true rfl) ⟨Nat.zero_le _, Nat.zero_le _⟩ dX7_light_7) (fun H locs hP hS => ?_)
  refine lv_if_ne (tgt := 21) hx hb dX7_light_10 (by decide) (fun c3 => ?_) (fun c3 => ?_)
  · have h := oc_f c3 h
    refine lv_iconst (v := (-1 : Int32)) hx hb dX7_light_21 (by decide) ?_
    refine lv_goto (tgt := 37) hx hb dX7_light_22 (by decide) ?_
    cases h
    exact kret_i C0 hP hD hS rfl dX7_light_37
  · have h := oc_t c3 h
    refine lv_aload_n hx hb dX7_light_13 rfl (lv_at hl 0 rfl) ?_
    refine lv_iload_n hx hb dX7_light_14 rfl (lv_at hl 2 rfl) ?_
    obtain ⟨r5, hc4, h⟩ := oc_bind h
    refine kro_i (wc := (WD16 cI cC cZ a_M a_M_text a_M_plan a_M_read a_M_readPage a_M_page a_M_trial a_M_book a_M_kept a_M_isKept a_M_seenPoint a_M_seenSum a_M_seenWas (0 : Int32) M_textSize M_place M_doings M_seen M_seed M_bestSet M_text M_plan M_read M_readPage M_page M_trial M_book M_kept M_isKept M_seenPoint M_seenSum M_seenWas)) C0 hP hD hS [0, 1, 2, 3, 4, 5, 6, 7, 8, 9, 10, 11, 12] rfl (kV (n := 1) (As := [.int p2]) (rest := []) (wc := (WD16 cI cC cZ a_M a_M_text a_M_plan a_M_read a_M_readPage a_M_page a_M_trial a_M_book a_M_kept a_M_isKept a_M_seenPoint a_M_seenSum a_M_seenWas (0 : Int32) M_textSize M_place M_doings M_seen M_seed M_bestSet M_text M_plan M_read M_readPage M_page M_trial M_book M_kept M_isKept M_seenPoint M_seenSum M_seenWas)) (C := RX7) C0 hP hD hS [0, 1, 2, 3, 4, 5, 6, 7, 8, 9, 10, 11, 12] rfl (by decide) (c_X7_noPoint l D cI cC cZ a_M a_M_text a_M_plan a_M_read a_M_readPage a_M_page a_M_trial a_M_book a_M_kept a_M_isKept a_M_seenPoint a_M_seenSum a_M_seenWas H.size (0 : Int32) M_textSize M_place M_doings M_seen M_seed M_bestSet M_text M_plan M_read M_readPage M_page M_trial M_book M_kept M_isKept M_seenPoint M_seenSum M_seenWas p2 r5 hc4) kw_357 kw_354 kw_355 kw_356 kw_5 (by decide +kernel) (by decide) rfl rfl rfl hl.1 rfl (Nat.le_of_ble_eq_true rfl) ⟨Nat.zero_le _, Nat.zero_le _⟩ dX7_light_15) (fun H locs hP hS => ?_)
    refine lv_if_eq (tgt := 25) hx hb dX7_light_18 (by decide) (fun c6 => ?_) (fun c6 => ?_)
    · have h := oc_t c6 h
      refine lv_aload_n hx hb dX7_light_25 rfl (lv_at hl 0 rfl) ?_
      refine lv_iload_n hx hb dX7_light_26 rfl (lv_at hl 1 rfl) ?_
      refine lv_iload_n hx hb dX7_light_27 rfl (lv_at hl 2 rfl) ?_
      refine lv_aload_n hx hb dX7_light_28 rfl (lv_at hl 0 rfl) ?_
      refine va_get (D := D) (ci := 7) (v := .ref a_M_page) (C := RX7) (T := TX7) (N := 19) hx hb hts inlX7 hown hK hP 0 rfl rfl 7 (by decide) (hts _ kw_88) (fun _ h9 => h9) rfl dX7_light_29 ?_
      refine lv_iconst (v := (2 : Int32)) hx hb dX7_light_32 (by decide) ?_
      refine va_iald hx hb hK hP 5 0 rfl rfl (show ¬ ((2 : Int32) < 0 ∨ 9 ≤ Int32.toNatClampNeg (2 : Int32)) by decide) dX7_light_33 ?_
      obtain ⟨r8, hc7, h⟩ := oc_bind h
      refine kro_i (wc := (WD16 cI cC cZ a_M a_M_text a_M_plan a_M_read a_M_readPage a_M_page a_M_trial a_M_book a_M_kept a_M_isKept a_M_seenPoint a_M_seenSum a_M_seenWas (0 : Int32) M_textSize M_place M_doings M_seen M_seed M_bestSet M_text M_plan M_read M_readPage M_page M_trial M_book M_kept M_isKept M_seenPoint M_seenSum M_seenWas)) C0 hP hD hS [0, 1, 2, 3, 4, 5, 6, 7, 8, 9, 10, 11, 12] rfl (kV (n := 3) (As := [.int p1, .int p2, .int (M_page (Int32.toNatClampNeg (2 : Int32)))]) (rest := []) (wc := (WD16 cI cC cZ a_M a_M_text a_M_plan a_M_read a_M_readPage a_M_page a_M_trial a_M_book a_M_kept a_M_isKept a_M_seenPoint a_M_seenSum a_M_seenWas (0 : Int32) M_textSize M_place M_doings M_seen M_seed M_bestSet M_text M_plan M_read M_readPage M_page M_trial M_book M_kept M_isKept M_seenPoint M_seenSum M_seenWas)) (C := RX7) C0 hP hD hS [0, 1, 2, 3, 4, 5, 6, 7, 8, 9, 10, 11, 12] rfl (by decide) (c_X7_lightBy l D cI cC cZ a_M a_M_text a_M_plan a_M_read a_M_readPage a_M_page a_M_trial a_M_book a_M_kept a_M_isKept a_M_seenPoint a_M_seenSum a_M_seenWas H.size (0 : Int32) M_textSize M_place M_doings M_seen M_seed M_bestSet M_text M_plan M_read M_readPage M_page M_trial M_book M_kept M_isKept M_seenPoint M_seenSum M_seenWas p1 p2 (M_page (Int32.toNatClampNeg (2 : Int32))) r8 hc7) kw_375 kw_372 kw_373 kw_374 kw_5 (by decide +kernel) (by decide) rfl rfl rfl hl.1 rfl (Nat.le_of_ble_eq_true rfl) ⟨Nat.zero_le _, Nat.zero_le _⟩ dX7_light_34) (fun H locs hP hS => ?_)
      cases h
      exact kret_i C0 hP hD hS rfl dX7_light_37
    · have h := oc_f c6 h
      refine lv_iconst (v := (-1 : Int32)) hx hb dX7_light_21 (by decide) ?_
      refine lv_goto (tgt := 37) hx hb dX7_light_22 (by decide) ?_
      cases h
      exact kret_i C0 hP hD hS rfl dX7_light_37
abbrev rm_X7_shade : Room := { frames := 5, cells := 0, slots := 0, locals := 130 }
noncomputable def f_X7_shade (M_thrown : Int32) (M_plan : Nat → Int32) (M_page : Nat → Int32) (p1 : Int32) (p2 : Int32) : Option (Int32 × Int32) := (f_X7_noSpot M_plan p1).bind (fun r2 => if r2 = 0 then ((f_X7_noPoint M_plan p2).bind (fun r5 => if r5 = 0 then ((f_X7_shadeBy M_plan p1 p2 (M_page (Int32.toNatClampNeg (2 : Int32)))).bind (fun r8 => some (r8, (0 : Int32)))) else (some ((-1 : Int32), (0 : Int32))))) else (some ((-1 : Int32), (0 : Int32))))
set_option maxHeartbeats 4000000 in
set_option maxRecDepth 100000 in
theorem c_X7_shade (l : Launch) (D : va_G) (cI cC cZ : ClassId) (a_M a_M_text a_M_plan a_M_read a_M_readPage a_M_page a_M_trial a_M_book a_M_kept a_M_isKept a_M_seenPoint a_M_seenSum a_M_seenWas : Nat) (sz : Nat) (M_thrown : Int32) (M_textSize : Int32) (M_place : Int32) (M_doings : Int32) (M_seen : Int32) (M_seed : Int64) (M_bestSet : Int32) (M_text : Nat → Int32) (M_plan : Nat → Int32) (M_read : Nat → Int32) (M_readPage : Nat → Int32) (M_page : Nat → Int32) (M_trial : Nat → Int32) (M_book : Nat → Int32) (M_kept : Nat → Int32) (M_isKept : Nat → Int32) (M_seenPoint : Nat → Int32) (M_seenSum : Nat → Int32) (M_seenWas : Nat → Int32) (p1 : Int32) (p2 : Int32) (rr : Int32) (u_M_thrown : Int32) (hf : f_X7_shade M_thrown M_plan M_page p1 p2 = some (rr, u_M_thrown)) : kMet l yX7_shade cX7_shade 3 (some .int) rm_X7_shade D (kTY cI cC cZ) [.ref a_M, .int p1, .int p2] (WD16 cI cC cZ a_M a_M_text a_M_plan a_M_read a_M_readPage a_M_page a_M_trial a_M_book a_M_kept a_M_isKept a_M_seenPoint a_M_seenSum a_M_seenWas M_thrown M_textSize M_place M_doings M_seen M_seed M_bestSet M_text M_plan M_read M_readPage M_page M_trial M_book M_kept M_isKept M_seenPoint M_seenSum M_seenWas) sz (kQI D (kTY cI cC cZ) (va_A (WD16 cI cC cZ a_M a_M_text a_M_plan a_M_read a_M_readPage a_M_page a_M_trial a_M_book a_M_kept a_M_isKept a_M_seenPoint a_M_seenSum a_M_seenWas M_thrown M_textSize M_place M_doings M_seen M_seed M_bestSet M_text M_plan M_read M_readPage M_page M_trial M_book M_kept M_isKept M_seenPoint M_seenSum M_seenWas) sz) rr (WD16 cI cC cZ a_M a_M_text a_M_plan a_M_read a_M_readPage a_M_page a_M_trial a_M_book a_M_kept a_M_isKept a_M_seenPoint a_M_seenSum a_M_seenWas u_M_thrown M_textSize M_place M_doings M_seen M_seed M_bestSet M_text M_plan M_read M_readPage M_page M_trial M_book M_kept M_isKept M_seenPoint M_seenSum M_seenWas)) := by
  refine kEnter (lv := [(0, .ref a_M), (1, .int p1), (2, .int p2)]) (own := RX7) (by decide) rfl (Nat.le_of_ble_eq_true rfl) rfl ?_
  intro p e s m below meth c hsz C0 hP hD hS ls hl
  generalize (va_A (WD16 cI cC cZ a_M a_M_text a_M_plan a_M_read a_M_readPage a_M_page a_M_trial a_M_book a_M_kept a_M_isKept a_M_seenPoint a_M_seenSum a_M_seenWas M_thrown M_textSize M_place M_doings M_seen M_seed M_bestSet M_text M_plan M_read M_readPage M_page M_trial M_book M_kept M_isKept M_seenPoint M_seenSum M_seenWas) sz) = A at C0 hD hS ⊢
  clear hsz hS
  obtain ⟨H, hHs⟩ : ∃ H : Heap, H = s.heap := ⟨_, rfl⟩
  have hS : va_S A s.heap H [] := by rw [hHs]; exact va_S.rf
  rw [← hHs] at hP ⊢
  obtain ⟨hx, hb, hr, hml, hown, hts, hK, hN, hA, hlocks, hF⟩ := id C0
  have h := hf
  unfold f_X7_shade at h
  refine lv_aload_n hx hb dX7_shade_0 rfl (lv_at hl 0 rfl) ?_
  refine lv_iconst (v := (0 : Int32)) hx hb dX7_shade_1 (by decide) ?_
  refine va_put (D := D) (ci := 7) (v := .int (0 : Int32)) (ty := .int) (C := RX7) (T := TX7) (N := 19) hx hb hts inlX7 tyX7 tyX7_ok nmX7 hown hK hP hD hS 0 rfl rfl 0 (by decide) (hts _ kw_109) (fun _ h9 => h9) rfl (by decide +kernel) rfl rfl (Nat.le_of_ble_eq_true rfl) dX7_shade_2 (fun H locs hP hD hS => ?_)
  have hP : va_P D vwCl (WD16 cI cC cZ a_M a_M_text a_M_plan a_M_read a_M_readPage a_M_page a_M_trial a_M_book a_M_kept a_M_isKept a_M_seenPoint a_M_seenSum a_M_seenWas (0 : Int32) M_textSize M_place M_doings M_seen M_seed M_bestSet M_text M_plan M_read M_readPage M_page M_trial M_book M_kept M_isKept M_seenPoint M_seenSum M_seenWas) H := hP
  have hD : va_D A (WD16 cI cC cZ a_M a_M_text a_M_plan a_M_read a_M_readPage a_M_page a_M_trial a_M_book a_M_kept a_M_isKept a_M_seenPoint a_M_seenSum a_M_seenWas (0 : Int32) M_textSize M_place M_doings M_seen M_seed M_bestSet M_text M_plan M_read M_readPage M_page M_trial M_book M_kept M_isKept M_seenPoint M_seenSum M_seenWas) := hD
  refine lv_aload_n hx hb dX7_shade_5 rfl (lv_at hl 0 rfl) ?_
  refine lv_iload_n hx hb dX7_shade_6 rfl (lv_at hl 1 rfl) ?_
  obtain ⟨r2, hc1, h⟩ := oc_bind h
  refine kro_i (wc := (WD16 cI cC cZ a_M a_M_text a_M_plan a_M_read a_M_readPage a_M_page a_M_trial a_M_book a_M_kept a_M_isKept a_M_seenPoint a_M_seenSum a_M_seenWas (0 : Int32) M_textSize M_place M_doings M_seen M_seed M_bestSet M_text M_plan M_read M_readPage M_page M_trial M_book M_kept M_isKept M_seenPoint M_seenSum M_seenWas)) C0 hP hD hS [0, 1, 2, 3, 4, 5, 6, 7, 8, 9, 10, 11, 12] rfl (kV (n := 1) (As := [.int p1]) (rest := []) (wc := (WD16 cI cC cZ a_M a_M_text a_M_plan a_M_read a_M_readPage a_M_page a_M_trial a_M_book a_M_kept a_M_isKept a_M_seenPoint a_M_seenSum a_M_seenWas (0 : Int32) M_textSize M_place M_doings M_seen M_seed M_bestSet M_text M_plan M_read M_readPage M_page M_trial M_book M_kept M_isKept M_seenPoint M_seenSum M_seenWas)) (C := RX7) C0 hP hD hS [0, 1, 2, 3, 4, 5, 6, 7, 8, 9, 10, 11, 12] rfl (by decide) (c_X7_noSpot l D cI cC cZ a_M a_M_text a_M_plan a_M_read a_M_readPage a_M_page a_M_trial a_M_book a_M_kept a_M_isKept a_M_seenPoint a_M_seenSum a_M_seenWas H.size (0 : Int32) M_textSize M_place M_doings M_seen M_seed M_bestSet M_text M_plan M_read M_readPage M_page M_trial M_book M_kept M_isKept M_seenPoint M_seenSum M_seenWas p1 r2 hc1) kw_299 kw_296 kw_297 kw_298 kw_5 (by decide +kernel) (by decide) rfl rfl rfl hl.1 rfl (Nat.le_of_ble_eq_true rfl) ⟨Nat.zero_le _, Nat.zero_le _⟩ dX7_shade_7) (fun H locs hP hS => ?_)
  refine lv_if_ne (tgt := 21) hx hb dX7_shade_10 (by decide) (fun c3 => ?_) (fun c3 => ?_)
  · have h := oc_f c3 h
    refine lv_iconst (v := (-1 : Int32)) hx hb dX7_shade_21 (by decide) ?_
    refine lv_goto (tgt := 37) hx hb dX7_shade_22 (by decide) ?_
    cases h
    exact kret_i C0 hP hD hS rfl dX7_shade_37
  · have h := oc_t c3 h
    refine lv_aload_n hx hb dX7_shade_13 rfl (lv_at hl 0 rfl) ?_
    refine lv_iload_n hx hb dX7_shade_14 rfl (lv_at hl 2 rfl) ?_
    obtain ⟨r5, hc4, h⟩ := oc_bind h
    refine kro_i (wc := (WD16 cI cC cZ a_M a_M_text a_M_plan a_M_read a_M_readPage a_M_page a_M_trial a_M_book a_M_kept a_M_isKept a_M_seenPoint a_M_seenSum a_M_seenWas (0 : Int32) M_textSize M_place M_doings M_seen M_seed M_bestSet M_text M_plan M_read M_readPage M_page M_trial M_book M_kept M_isKept M_seenPoint M_seenSum M_seenWas)) C0 hP hD hS [0, 1, 2, 3, 4, 5, 6, 7, 8, 9, 10, 11, 12] rfl (kV (n := 1) (As := [.int p2]) (rest := []) (wc := (WD16 cI cC cZ a_M a_M_text a_M_plan a_M_read a_M_readPage a_M_page a_M_trial a_M_book a_M_kept a_M_isKept a_M_seenPoint a_M_seenSum a_M_seenWas (0 : Int32) M_textSize M_place M_doings M_seen M_seed M_bestSet M_text M_plan M_read M_readPage M_page M_trial M_book M_kept M_isKept M_seenPoint M_seenSum M_seenWas)) (C := RX7) C0 hP hD hS [0, 1, 2, 3, 4, 5, 6, 7, 8, 9, 10, 11, 12] rfl (by decide) (c_X7_noPoint l D cI cC cZ a_M a_M_text a_M_plan a_M_read a_M_readPage a_M_page a_M_trial a_M_book a_M_kept a_M_isKept a_M_seenPoint a_M_seenSum a_M_seenWas H.size (0 : Int32) M_textSize M_place M_doings M_seen M_seed M_bestSet M_text M_plan M_read M_readPage M_page M_trial M_book M_kept M_isKept M_seenPoint M_seenSum M_seenWas p2 r5 hc4) kw_357 kw_354 kw_355 kw_356 kw_5 (by decide +kernel) (by decide) rfl rfl rfl hl.1 rfl (Nat.le_of_ble_eq_true rfl) ⟨Nat.zero_le _, Nat.zero_le _⟩ dX7_shade_15) (fun H locs hP hS => ?_)
    refine lv_if_eq (tgt := 25) hx hb dX7_shade_18 (by decide) (fun c6 => ?_) (fun c6 => ?_)
    · have h := oc_t c6 h
      refine lv_aload_n hx hb dX7_shade_25 rfl (lv_at hl 0 rfl) ?_
      refine lv_iload_n hx hb dX7_shade_26 rfl (lv_at hl 1 rfl) ?_
      refine lv_iload_n hx hb dX7_shade_27 rfl (lv_at hl 2 rfl) ?_
      refine lv_aload_n hx hb dX7_shade_28 rfl (lv_at hl 0 rfl) ?_
      refine va_get (D := D) (ci := 7) (v := .ref a_M_page) (C := RX7) (T := TX7) (N := 19) hx hb hts inlX7 hown hK hP 0 rfl rfl 7 (by decide) (hts _ kw_88) (fun _ h9 => h9) rfl dX7_shade_29 ?_
      refine lv_iconst (v := (2 : Int32)) hx hb dX7_shade_32 (by decide) ?_
      refine va_iald hx hb hK hP 5 0 rfl rfl (show ¬ ((2 : Int32) < 0 ∨ 9 ≤ Int32.toNatClampNeg (2 : Int32)) by decide) dX7_shade_33 ?_
      obtain ⟨r8, hc7, h⟩ := oc_bind h
      refine kro_i (wc := (WD16 cI cC cZ a_M a_M_text a_M_plan a_M_read a_M_readPage a_M_page a_M_trial a_M_book a_M_kept a_M_isKept a_M_seenPoint a_M_seenSum a_M_seenWas (0 : Int32) M_textSize M_place M_doings M_seen M_seed M_bestSet M_text M_plan M_read M_readPage M_page M_trial M_book M_kept M_isKept M_seenPoint M_seenSum M_seenWas)) C0 hP hD hS [0, 1, 2, 3, 4, 5, 6, 7, 8, 9, 10, 11, 12] rfl (kV (n := 3) (As := [.int p1, .int p2, .int (M_page (Int32.toNatClampNeg (2 : Int32)))]) (rest := []) (wc := (WD16 cI cC cZ a_M a_M_text a_M_plan a_M_read a_M_readPage a_M_page a_M_trial a_M_book a_M_kept a_M_isKept a_M_seenPoint a_M_seenSum a_M_seenWas (0 : Int32) M_textSize M_place M_doings M_seen M_seed M_bestSet M_text M_plan M_read M_readPage M_page M_trial M_book M_kept M_isKept M_seenPoint M_seenSum M_seenWas)) (C := RX7) C0 hP hD hS [0, 1, 2, 3, 4, 5, 6, 7, 8, 9, 10, 11, 12] rfl (by decide) (c_X7_shadeBy l D cI cC cZ a_M a_M_text a_M_plan a_M_read a_M_readPage a_M_page a_M_trial a_M_book a_M_kept a_M_isKept a_M_seenPoint a_M_seenSum a_M_seenWas H.size (0 : Int32) M_textSize M_place M_doings M_seen M_seed M_bestSet M_text M_plan M_read M_readPage M_page M_trial M_book M_kept M_isKept M_seenPoint M_seenSum M_seenWas p1 p2 (M_page (Int32.toNatClampNeg (2 : Int32))) r8 hc7) kw_379 kw_376 kw_377 kw_378 kw_5 (by decide +kernel) (by decide) rfl rfl rfl hl.1 rfl (Nat.le_of_ble_eq_true rfl) ⟨Nat.zero_le _, Nat.zero_le _⟩ dX7_shade_34) (fun H locs hP hS => ?_)
      cases h
      exact kret_i C0 hP hD hS rfl dX7_shade_37
    · have h := oc_f c6 h
      refine lv_iconst (v := (-1 : Int32)) hx hb dX7_shade_21 (by decide) ?_
      refine lv_goto (tgt := 37) hx hb dX7_shade_22 (by decide) ?_
      cases h
      exact kret_i C0 hP hD hS rfl dX7_shade_37
abbrev rm_X7_note : Room := { frames := 0, cells := 0, slots := 0, locals := 0 }
noncomputable def bk_X7_note_50 (k50 : (Nat → Int32) → Int32 → Option (Int32 × (Nat → Int32))) (M_doings : Int32) (M_page : Nat → Int32) (M_book : Nat → Int32) (p1 : Int32) : Option (Int32 × (Nat → Int32)) := if (9 : Int32) ≤ p1 then (nm_ (M_doings + (1 : Int32)) (fun t2 => some (t2, M_book))) else (if (p1 < 0 ∨ 9 ≤ Int32.toNatClampNeg p1) then none else (if ((((9 : Int32) * M_doings) + p1) < 0 ∨ 126 ≤ Int32.toNatClampNeg (((9 : Int32) * M_doings) + p1)) then none else (nm_ (p1 + (1 : Int32)) (fun t5 => k50 (upd M_book (Int32.toNatClampNeg (((9 : Int32) * M_doings) + p1)) (M_page (Int32.toNatClampNeg p1))) t5))))
set_option maxHeartbeats 4000000 in
set_option maxRecDepth 100000 in
theorem wk_X7_note_50 {p : Program} {l : Launch} {e : Env} {s : State} {m : MethodId} {args : Array Value} {below : List Frame} {meth : Method} {c : Code} {D : va_G} {cI cC cZ : ClassId} {A : Nat → Prop} {a_M a_M_text a_M_plan a_M_read a_M_readPage a_M_page a_M_trial a_M_book a_M_kept a_M_isKept a_M_seenPoint a_M_seenSum a_M_seenWas : Nat} {M_thrown : Int32} {M_textSize : Int32} {M_place : Int32} {M_doings : Int32} {M_seen : Int32} {M_seed : Int64} {M_bestSet : Int32} {M_text : Nat → Int32} {M_plan : Nat → Int32} {M_read : Nat → Int32} {M_readPage : Nat → Int32} {M_page : Nat → Int32} {M_trial : Nat → Int32} {M_book : Nat → Int32} {M_kept : Nat → Int32} {M_isKept : Nat → Int32} {M_seenPoint : Nat → Int32} {M_seenSum : Nat → Int32} {M_seenWas : Nat → Int32} {p1 : Int32} {k50 : (Nat → Int32) → Int32 → Option (Int32 × (Nat → Int32))} {u_M_doings : Int32} {u_M_book : Nat → Int32} (C0 : kC p s m args meth c D (kTY cI cC cZ) cX7_note none 2 RX7 A) (hk50 : ∀ (M_book_k : Nat → Int32) (p1_k : Int32), k50 M_book_k p1_k = some (u_M_doings, u_M_book) → ∀ (H : Heap) (locs : List Loc), va_P D vwCl (WD16 cI cC cZ a_M a_M_text a_M_plan a_M_read a_M_readPage a_M_page a_M_trial a_M_book a_M_kept a_M_isKept a_M_seenPoint a_M_seenSum a_M_seenWas M_thrown M_textSize M_place M_doings M_seen M_seed M_bestSet M_text M_plan M_read M_readPage M_page M_trial M_book_k M_kept M_isKept M_seenPoint M_seenSum M_seenWas) H → va_D A (WD16 cI cC cZ a_M a_M_text a_M_plan a_M_read a_M_readPage a_M_page a_M_trial a_M_book a_M_kept a_M_isKept a_M_seenPoint a_M_seenSum a_M_seenWas M_thrown M_textSize M_place M_doings M_seen M_seed M_bestSet M_text M_plan M_read M_readPage M_page M_trial M_book_k M_kept M_isKept M_seenPoint M_seenSum M_seenWas) → va_S A s.heap H locs → ∀ ls : Array Slot, lv_has ls 2 [(0, .ref a_M), (1, .int p1_k)] → W p l e rm_X7_note s m args below meth c H locs 0 0 (MQ below (kQV D (kTY cI cC cZ) A (WD16 cI cC cZ a_M a_M_text a_M_plan a_M_read a_M_readPage a_M_page a_M_trial a_M_book a_M_kept a_M_isKept a_M_seenPoint a_M_seenSum a_M_seenWas M_thrown M_textSize M_place u_M_doings M_seen M_seed M_bestSet M_text M_plan M_read M_readPage M_page M_trial u_M_book M_kept M_isKept M_seenPoint M_seenSum M_seenWas)) args s 0 0 A) (F0 m 50 ls [])) (h : bk_X7_note_50 k50 M_doings M_page M_book p1 = some (u_M_doings, u_M_book)) {H : Heap} {locs : List Loc} (hP : va_P D vwCl (WD16 cI cC cZ a_M a_M_text a_M_plan a_M_read a_M_readPage a_M_page a_M_trial a_M_book a_M_kept a_M_isKept a_M_seenPoint a_M_seenSum a_M_seenWas M_thrown M_textSize M_place M_doings M_seen M_seed M_bestSet M_text M_plan M_read M_readPage M_page M_trial M_book M_kept M_isKept M_seenPoint M_seenSum M_seenWas) H) (hD : va_D A (WD16 cI cC cZ a_M a_M_text a_M_plan a_M_read a_M_readPage a_M_page a_M_trial a_M_book a_M_kept a_M_isKept a_M_seenPoint a_M_seenSum a_M_seenWas M_thrown M_textSize M_place M_doings M_seen M_seed M_bestSet M_text M_plan M_read M_readPage M_page M_trial M_book M_kept M_isKept M_seenPoint M_seenSum M_seenWas)) (hS : va_S A s.heap H locs) {ls : Array Slot} (hl : lv_has ls 2 [(0, .ref a_M), (1, .int p1)]) : W p l e rm_X7_note s m args below meth c H locs 0 0 (MQ below (kQV D (kTY cI cC cZ) A (WD16 cI cC cZ a_M a_M_text a_M_plan a_M_read a_M_readPage a_M_page a_M_trial a_M_book a_M_kept a_M_isKept a_M_seenPoint a_M_seenSum a_M_seenWas M_thrown M_textSize M_place u_M_doings M_seen M_seed M_bestSet M_text M_plan M_read M_readPage M_page M_trial u_M_book M_kept M_isKept M_seenPoint M_seenSum M_seenWas)) args s 0 0 A) (F0 m 50 ls []) := by
  obtain ⟨hx, hb, hr, hml, hown, hts, hK, hN, hA, hlocks, hF⟩ := id C0
  unfold bk_X7_note_50 at h
  refine lv_iload_n hx hb dX7_note_50 rfl (lv_at hl 1 rfl) ?_
  refine lv_bipush (v := (9 : Int32)) hx hb dX7_note_51 (by decide) ?_
  refine lv_icmp_ge (tgt := 82) hx hb dX7_note_53 (by decide) (fun c1 => ?_) (fun c1 => ?_)
  · have h := oc_t c1 h
    refine lv_aload_n hx hb dX7_note_82 rfl (lv_at hl 0 rfl) ?_
    refine lv_dup hx hb dX7_note_83 rfl ?_
    refine va_get (D := D) (ci := 7) (v := .int M_doings) (C := RX7) (T := TX7) (N := 19) hx hb hts inlX7 hown hK hP 0 rfl rfl 10 (by decide) (hts _ kw_269) (fun _ h9 => h9) rfl dX7_note_84 ?_
    refine lv_iconst (v := (1 : Int32)) hx hb dX7_note_87 (by decide) ?_
    refine lv_iadd hx hb dX7_note_88 ?_
    refine lv_topi (fun t2 e_t2 => ?_)
    have h := oc_nm e_t2 h
    refine va_put (D := D) (ci := 7) (v := .int t2) (ty := .int) (C := RX7) (T := TX7) (N := 19) hx hb hts inlX7 tyX7 tyX7_ok nmX7 hown hK hP hD hS 0 rfl rfl 10 (by decide) (hts _ kw_269) (fun _ h9 => h9) rfl (by decide +kernel) rfl rfl (Nat.le_of_ble_eq_true rfl) dX7_note_89 (fun H locs hP hD hS => ?_)
    have hP : va_P D vwCl (WD16 cI cC cZ a_M a_M_text a_M_plan a_M_read a_M_readPage a_M_page a_M_trial a_M_book a_M_kept a_M_isKept a_M_seenPoint a_M_seenSum a_M_seenWas M_thrown M_textSize M_place t2 M_seen M_seed M_bestSet M_text M_plan M_read M_readPage M_page M_trial M_book M_kept M_isKept M_seenPoint M_seenSum M_seenWas) H := hP
    have hD : va_D A (WD16 cI cC cZ a_M a_M_text a_M_plan a_M_read a_M_readPage a_M_page a_M_trial a_M_book a_M_kept a_M_isKept a_M_seenPoint a_M_seenSum a_M_seenWas M_thrown M_textSize M_place t2 M_seen M_seed M_bestSet M_text M_plan M_read M_readPage M_page M_trial M_book M_kept M_isKept M_seenPoint M_seenSum M_seenWas) := hD
    cases h
    exact kret_v C0 hP hD hS dX7_note_92
  · have h := oc_f c1 h
    refine lv_aload_n hx hb dX7_note_56 rfl (lv_at hl 0 rfl) ?_
    refine va_get (D := D) (ci := 7) (v := .ref a_M_book) (C := RX7) (T := TX7) (N := 19) hx hb hts inlX7 hown hK hP 0 rfl rfl 9 (by decide) (hts _ kw_90) (fun _ h9 => h9) rfl dX7_note_57 ?_
    refine lv_bipush (v := (9 : Int32)) hx hb dX7_note_60 (by decide) ?_
    refine lv_aload_n hx hb dX7_note_62 rfl (lv_at hl 0 rfl) ?_
    refine va_get (D := D) (ci := 7) (v := .int M_doings) (C := RX7) (T := TX7) (N := 19) hx hb hts inlX7 hown hK hP 0 rfl rfl 10 (by decide) (hts _ kw_269) (fun _ h9 => h9) rfl dX7_note_63 ?_
    refine lv_imul hx hb dX7_note_66 ?_
    refine lv_iload_n hx hb dX7_note_67 rfl (lv_at hl 1 rfl) ?_
    refine lv_iadd hx hb dX7_note_68 ?_
    refine lv_aload_n hx hb dX7_note_69 rfl (lv_at hl 0 rfl) ?_
    refine va_get (D := D) (ci := 7) (v := .ref a_M_page) (C := RX7) (T := TX7) (N := 19) hx hb hts inlX7 hown hK hP 0 rfl rfl 7 (by decide) (hts _ kw_88) (fun _ h9 => h9) rfl dX7_note_70 ?_
    refine lv_iload_n hx hb dX7_note_73 rfl (lv_at hl 1 rfl) ?_
    obtain ⟨hb3, h⟩ := oc_else h
    refine va_iald hx hb hK hP 5 0 rfl rfl hb3 dX7_note_74 ?_
    obtain ⟨hb4, h⟩ := oc_else h
    refine va_iast hx hb hK hP hD hS 7 0 rfl rfl hb4 dX7_note_75 (fun H locs hP hD hS => ?_)
    have hP : va_P D vwCl (WD16 cI cC cZ a_M a_M_text a_M_plan a_M_read a_M_readPage a_M_page a_M_trial a_M_book a_M_kept a_M_isKept a_M_seenPoint a_M_seenSum a_M_seenWas M_thrown M_textSize M_place M_doings M_seen M_seed M_bestSet M_text M_plan M_read M_readPage M_page M_trial (upd M_book (Int32.toNatClampNeg (((9 : Int32) * M_doings) + p1)) (M_page (Int32.toNatClampNeg p1))) M_kept M_isKept M_seenPoint M_seenSum M_seenWas) H := hP
    have hD : va_D A (WD16 cI cC cZ a_M a_M_text a_M_plan a_M_read a_M_readPage a_M_page a_M_trial a_M_book a_M_kept a_M_isKept a_M_seenPoint a_M_seenSum a_M_seenWas M_thrown M_textSize M_place M_doings M_seen M_seed M_bestSet M_text M_plan M_read M_readPage M_page M_trial (upd M_book (Int32.toNatClampNeg (((9 : Int32) * M_doings) + p1)) (M_page (Int32.toNatClampNeg p1))) M_kept M_isKept M_seenPoint M_seenSum M_seenWas) := hD
    obtain ⟨t5, e_t5⟩ : ∃ y : Int32, y = p1 + (1 : Int32) := ⟨_, rfl⟩
    have h := oc_nm e_t5 h
    refine lv_iinc (v := t5) (lv' := [(1, .int t5), (0, .ref a_M)]) hx hb dX7_note_76 hl (k := 1) rfl (by rw [e_t5]; rfl) (by decide) rfl (fun ls hl => ?_)
    refine lv_goto (tgt := 50) hx hb dX7_note_79 (by decide) ?_
    exact hk50 _ _ h _ _ hP hD hS _ (lv_sub hl [1, 0] rfl)
noncomputable def lp_X7_note_50  (M_doings : Int32) (M_page : Nat → Int32) (n : Nat) : (Nat → Int32) → Int32 → Option (Int32 × (Nat → Int32)) := Nat.rec (motive := fun _ => (Nat → Int32) → Int32 → Option (Int32 × (Nat → Int32))) (fun _ _ => none) (fun _ ih => bk_X7_note_50  ih M_doings M_page) n
set_option maxHeartbeats 4000000 in
set_option maxRecDepth 100000 in
theorem wl_X7_note_50 {p : Program} {l : Launch} {e : Env} {s : State} {m : MethodId} {args : Array Value} {below : List Frame} {meth : Method} {c : Code} {D : va_G} {cI cC cZ : ClassId} {A : Nat → Prop} {a_M a_M_text a_M_plan a_M_read a_M_readPage a_M_page a_M_trial a_M_book a_M_kept a_M_isKept a_M_seenPoint a_M_seenSum a_M_seenWas : Nat} {M_thrown : Int32} {M_textSize : Int32} {M_place : Int32} {M_doings : Int32} {M_seen : Int32} {M_seed : Int64} {M_bestSet : Int32} {M_text : Nat → Int32} {M_plan : Nat → Int32} {M_read : Nat → Int32} {M_readPage : Nat → Int32} {M_page : Nat → Int32} {M_trial : Nat → Int32} {M_kept : Nat → Int32} {M_isKept : Nat → Int32} {M_seenPoint : Nat → Int32} {M_seenSum : Nat → Int32} {M_seenWas : Nat → Int32}  {u_M_doings : Int32} {u_M_book : Nat → Int32} (C0 : kC p s m args meth c D (kTY cI cC cZ) cX7_note none 2 RX7 A)  : ∀ (n : Nat) (M_book : Nat → Int32) (p1 : Int32), lp_X7_note_50  M_doings M_page n M_book p1 = some (u_M_doings, u_M_book) → ∀ (H : Heap) (locs : List Loc), va_P D vwCl (WD16 cI cC cZ a_M a_M_text a_M_plan a_M_read a_M_readPage a_M_page a_M_trial a_M_book a_M_kept a_M_isKept a_M_seenPoint a_M_seenSum a_M_seenWas M_thrown M_textSize M_place M_doings M_seen M_seed M_bestSet M_text M_plan M_read M_readPage M_page M_trial M_book M_kept M_isKept M_seenPoint M_seenSum M_seenWas) H → va_D A (WD16 cI cC cZ a_M a_M_text a_M_plan a_M_read a_M_readPage a_M_page a_M_trial a_M_book a_M_kept a_M_isKept a_M_seenPoint a_M_seenSum a_M_seenWas M_thrown M_textSize M_place M_doings M_seen M_seed M_bestSet M_text M_plan M_read M_readPage M_page M_trial M_book M_kept M_isKept M_seenPoint M_seenSum M_seenWas) → va_S A s.heap H locs → ∀ ls : Array Slot, lv_has ls 2 [(0, .ref a_M), (1, .int p1)] → W p l e rm_X7_note s m args below meth c H locs 0 0 (MQ below (kQV D (kTY cI cC cZ) A (WD16 cI cC cZ a_M a_M_text a_M_plan a_M_read a_M_readPage a_M_page a_M_trial a_M_book a_M_kept a_M_isKept a_M_seenPoint a_M_seenSum a_M_seenWas M_thrown M_textSize M_place u_M_doings M_seen M_seed M_bestSet M_text M_plan M_read M_readPage M_page M_trial u_M_book M_kept M_isKept M_seenPoint M_seenSum M_seenWas)) args s 0 0 A) (F0 m 50 ls []) := by
  intro n
  induction n with
  | zero => intro M_book p1 h; cases (show (none : Option (Int32 × (Nat → Int32))) = some _ from h)
  | succ n ih =>
    intro M_book p1 h H locs hP hD hS ls hl
    exact wk_X7_note_50 C0  (fun M_book p1 h H locs hP hD hS ls hl => ih M_book p1 h H locs hP hD hS ls hl) (show bk_X7_note_50  (lp_X7_note_50  M_doings M_page n) M_doings M_page M_book p1 = some _ from h) hP hD hS hl
noncomputable def bk_X7_note_38  (M_doings : Int32) (M_page : Nat → Int32) (M_book : Nat → Int32) : Option (Int32 × (Nat → Int32)) := nm_ (M_doings - (1 : Int32)) (fun t1 => lp_X7_note_50  t1 M_page 1000 M_book (0 : Int32))
set_option maxHeartbeats 4000000 in
set_option maxRecDepth 100000 in
theorem wk_X7_note_38 {p : Program} {l : Launch} {e : Env} {s : State} {m : MethodId} {args : Array Value} {below : List Frame} {meth : Method} {c : Code} {D : va_G} {cI cC cZ : ClassId} {A : Nat → Prop} {a_M a_M_text a_M_plan a_M_read a_M_readPage a_M_page a_M_trial a_M_book a_M_kept a_M_isKept a_M_seenPoint a_M_seenSum a_M_seenWas : Nat} {M_thrown : Int32} {M_textSize : Int32} {M_place : Int32} {M_doings : Int32} {M_seen : Int32} {M_seed : Int64} {M_bestSet : Int32} {M_text : Nat → Int32} {M_plan : Nat → Int32} {M_read : Nat → Int32} {M_readPage : Nat → Int32} {M_page : Nat → Int32} {M_trial : Nat → Int32} {M_book : Nat → Int32} {M_kept : Nat → Int32} {M_isKept : Nat → Int32} {M_seenPoint : Nat → Int32} {M_seenSum : Nat → Int32} {M_seenWas : Nat → Int32}  {u_M_doings : Int32} {u_M_book : Nat → Int32} (C0 : kC p s m args meth c D (kTY cI cC cZ) cX7_note none 2 RX7 A)  (h : bk_X7_note_38  M_doings M_page M_book = some (u_M_doings, u_M_book)) {H : Heap} {locs : List Loc} (hP : va_P D vwCl (WD16 cI cC cZ a_M a_M_text a_M_plan a_M_read a_M_readPage a_M_page a_M_trial a_M_book a_M_kept a_M_isKept a_M_seenPoint a_M_seenSum a_M_seenWas M_thrown M_textSize M_place M_doings M_seen M_seed M_bestSet M_text M_plan M_read M_readPage M_page M_trial M_book M_kept M_isKept M_seenPoint M_seenSum M_seenWas) H) (hD : va_D A (WD16 cI cC cZ a_M a_M_text a_M_plan a_M_read a_M_readPage a_M_page a_M_trial a_M_book a_M_kept a_M_isKept a_M_seenPoint a_M_seenSum a_M_seenWas M_thrown M_textSize M_place M_doings M_seen M_seed M_bestSet M_text M_plan M_read M_readPage M_page M_trial M_book M_kept M_isKept M_seenPoint M_seenSum M_seenWas)) (hS : va_S A s.heap H locs) {ls : Array Slot} (hl : lv_has ls 2 [(0, .ref a_M)]) : W p l e rm_X7_note s m args below meth c H locs 0 0 (MQ below (kQV D (kTY cI cC cZ) A (WD16 cI cC cZ a_M a_M_text a_M_plan a_M_read a_M_readPage a_M_page a_M_trial a_M_book a_M_kept a_M_isKept a_M_seenPoint a_M_seenSum a_M_seenWas M_thrown M_textSize M_place u_M_doings M_seen M_seed M_bestSet M_text M_plan M_read M_readPage M_page M_trial u_M_book M_kept M_isKept M_seenPoint M_seenSum M_seenWas)) args s 0 0 A) (F0 m 38 ls []) := by
  obtain ⟨hx, hb, hr, hml, hown, hts, hK, hN, hA, hlocks, hF⟩ := id C0
  unfold bk_X7_note_38 at h
  refine lv_aload_n hx hb dX7_note_38 rfl (lv_at hl 0 rfl) ?_
  refine lv_dup hx hb dX7_note_39 rfl ?_
  refine va_get (D := D) (ci := 7) (v := .int M_doings) (C := RX7) (T := TX7) (N := 19) hx hb hts inlX7 hown hK hP 0 rfl rfl 10 (by decide) (hts _ kw_269) (fun _ h9 => h9) rfl dX7_note_40 ?_
  refine lv_iconst (v := (1 : Int32)) hx hb dX7_note_43 (by decide) ?_
  refine lv_isub hx hb dX7_note_44 ?_
  refine lv_topi (fun t1 e_t1 => ?_)
  have h := oc_nm e_t1 h
  refine va_put (D := D) (ci := 7) (v := .int t1) (ty := .int) (C := RX7) (T := TX7) (N := 19) hx hb hts inlX7 tyX7 tyX7_ok nmX7 hown hK hP hD hS 0 rfl rfl 10 (by decide) (hts _ kw_269) (fun _ h9 => h9) rfl (by decide +kernel) rfl rfl (Nat.le_of_ble_eq_true rfl) dX7_note_45 (fun H locs hP hD hS => ?_)
  have hP : va_P D vwCl (WD16 cI cC cZ a_M a_M_text a_M_plan a_M_read a_M_readPage a_M_page a_M_trial a_M_book a_M_kept a_M_isKept a_M_seenPoint a_M_seenSum a_M_seenWas M_thrown M_textSize M_place t1 M_seen M_seed M_bestSet M_text M_plan M_read M_readPage M_page M_trial M_book M_kept M_isKept M_seenPoint M_seenSum M_seenWas) H := hP
  have hD : va_D A (WD16 cI cC cZ a_M a_M_text a_M_plan a_M_read a_M_readPage a_M_page a_M_trial a_M_book a_M_kept a_M_isKept a_M_seenPoint a_M_seenSum a_M_seenWas M_thrown M_textSize M_place t1 M_seen M_seed M_bestSet M_text M_plan M_read M_readPage M_page M_trial M_book M_kept M_isKept M_seenPoint M_seenSum M_seenWas) := hD
  refine lv_iconst (v := (0 : Int32)) hx hb dX7_note_48 (by decide) ?_
  refine lv_istore_n (lv' := [(1, .int (0 : Int32)), (0, .ref a_M)]) hx hb dX7_note_49 rfl hl (by decide) rfl (fun ls hl => ?_)
  exact wl_X7_note_50 C0  _ _ _ h _ _ hP hD hS _ (lv_sub hl [1, 0] rfl)
noncomputable def bk_X7_note_11 (k11 : (Nat → Int32) → Int32 → Option (Int32 × (Nat → Int32))) (M_doings : Int32) (M_page : Nat → Int32) (M_book : Nat → Int32) (p1 : Int32) : Option (Int32 × (Nat → Int32)) := if (117 : Int32) ≤ p1 then (bk_X7_note_38  M_doings M_page M_book) else (if ((p1 + (9 : Int32)) < 0 ∨ 126 ≤ Int32.toNatClampNeg (p1 + (9 : Int32))) then none else (if (p1 < 0 ∨ 126 ≤ Int32.toNatClampNeg p1) then none else (nm_ (p1 + (1 : Int32)) (fun t4 => k11 (upd M_book (Int32.toNatClampNeg p1) (M_book (Int32.toNatClampNeg (p1 + (9 : Int32))))) t4))))
set_option maxHeartbeats 4000000 in
set_option maxRecDepth 100000 in
theorem wk_X7_note_11 {p : Program} {l : Launch} {e : Env} {s : State} {m : MethodId} {args : Array Value} {below : List Frame} {meth : Method} {c : Code} {D : va_G} {cI cC cZ : ClassId} {A : Nat → Prop} {a_M a_M_text a_M_plan a_M_read a_M_readPage a_M_page a_M_trial a_M_book a_M_kept a_M_isKept a_M_seenPoint a_M_seenSum a_M_seenWas : Nat} {M_thrown : Int32} {M_textSize : Int32} {M_place : Int32} {M_doings : Int32} {M_seen : Int32} {M_seed : Int64} {M_bestSet : Int32} {M_text : Nat → Int32} {M_plan : Nat → Int32} {M_read : Nat → Int32} {M_readPage : Nat → Int32} {M_page : Nat → Int32} {M_trial : Nat → Int32} {M_book : Nat → Int32} {M_kept : Nat → Int32} {M_isKept : Nat → Int32} {M_seenPoint : Nat → Int32} {M_seenSum : Nat → Int32} {M_seenWas : Nat → Int32} {p1 : Int32} {k11 : (Nat → Int32) → Int32 → Option (Int32 × (Nat → Int32))} {u_M_doings : Int32} {u_M_book : Nat → Int32} (C0 : kC p s m args meth c D (kTY cI cC cZ) cX7_note none 2 RX7 A) (hk11 : ∀ (M_book_k : Nat → Int32) (p1_k : Int32), k11 M_book_k p1_k = some (u_M_doings, u_M_book) → ∀ (H : Heap) (locs : List Loc), va_P D vwCl (WD16 cI cC cZ a_M a_M_text a_M_plan a_M_read a_M_readPage a_M_page a_M_trial a_M_book a_M_kept a_M_isKept a_M_seenPoint a_M_seenSum a_M_seenWas M_thrown M_textSize M_place M_doings M_seen M_seed M_bestSet M_text M_plan M_read M_readPage M_page M_trial M_book_k M_kept M_isKept M_seenPoint M_seenSum M_seenWas) H → va_D A (WD16 cI cC cZ a_M a_M_text a_M_plan a_M_read a_M_readPage a_M_page a_M_trial a_M_book a_M_kept a_M_isKept a_M_seenPoint a_M_seenSum a_M_seenWas M_thrown M_textSize M_place M_doings M_seen M_seed M_bestSet M_text M_plan M_read M_readPage M_page M_trial M_book_k M_kept M_isKept M_seenPoint M_seenSum M_seenWas) → va_S A s.heap H locs → ∀ ls : Array Slot, lv_has ls 2 [(0, .ref a_M), (1, .int p1_k)] → W p l e rm_X7_note s m args below meth c H locs 0 0 (MQ below (kQV D (kTY cI cC cZ) A (WD16 cI cC cZ a_M a_M_text a_M_plan a_M_read a_M_readPage a_M_page a_M_trial a_M_book a_M_kept a_M_isKept a_M_seenPoint a_M_seenSum a_M_seenWas M_thrown M_textSize M_place u_M_doings M_seen M_seed M_bestSet M_text M_plan M_read M_readPage M_page M_trial u_M_book M_kept M_isKept M_seenPoint M_seenSum M_seenWas)) args s 0 0 A) (F0 m 11 ls [])) (h : bk_X7_note_11 k11 M_doings M_page M_book p1 = some (u_M_doings, u_M_book)) {H : Heap} {locs : List Loc} (hP : va_P D vwCl (WD16 cI cC cZ a_M a_M_text a_M_plan a_M_read a_M_readPage a_M_page a_M_trial a_M_book a_M_kept a_M_isKept a_M_seenPoint a_M_seenSum a_M_seenWas M_thrown M_textSize M_place M_doings M_seen M_seed M_bestSet M_text M_plan M_read M_readPage M_page M_trial M_book M_kept M_isKept M_seenPoint M_seenSum M_seenWas) H) (hD : va_D A (WD16 cI cC cZ a_M a_M_text a_M_plan a_M_read a_M_readPage a_M_page a_M_trial a_M_book a_M_kept a_M_isKept a_M_seenPoint a_M_seenSum a_M_seenWas M_thrown M_textSize M_place M_doings M_seen M_seed M_bestSet M_text M_plan M_read M_readPage M_page M_trial M_book M_kept M_isKept M_seenPoint M_seenSum M_seenWas)) (hS : va_S A s.heap H locs) {ls : Array Slot} (hl : lv_has ls 2 [(0, .ref a_M), (1, .int p1)]) : W p l e rm_X7_note s m args below meth c H locs 0 0 (MQ below (kQV D (kTY cI cC cZ) A (WD16 cI cC cZ a_M a_M_text a_M_plan a_M_read a_M_readPage a_M_page a_M_trial a_M_book a_M_kept a_M_isKept a_M_seenPoint a_M_seenSum a_M_seenWas M_thrown M_textSize M_place u_M_doings M_seen M_seed M_bestSet M_text M_plan M_read M_readPage M_page M_trial u_M_book M_kept M_isKept M_seenPoint M_seenSum M_seenWas)) args s 0 0 A) (F0 m 11 ls []) := by
  obtain ⟨hx, hb, hr, hml, hown, hts, hK, hN, hA, hlocks, hF⟩ := id C0
  unfold bk_X7_note_11 at h
  refine lv_iload_n hx hb dX7_note_11 rfl (lv_at hl 1 rfl) ?_
  refine lv_bipush (v := (117 : Int32)) hx hb dX7_note_12 (by decide) ?_
  refine lv_icmp_ge (tgt := 38) hx hb dX7_note_14 (by decide) (fun c1 => ?_) (fun c1 => ?_)
  · have h := oc_t c1 h
    exact wk_X7_note_38 C0  h hP hD hS (lv_sub hl [0] rfl)
  · have h := oc_f c1 h
    refine lv_aload_n hx hb dX7_note_17 rfl (lv_at hl 0 rfl) ?_
    refine va_get (D := D) (ci := 7) (v := .ref a_M_book) (C := RX7) (T := TX7) (N := 19) hx hb hts inlX7 hown hK hP 0 rfl rfl 9 (by decide) (hts _ kw_90) (fun _ h9 => h9) rfl dX7_note_18 ?_
    refine lv_iload_n hx hb dX7_note_21 rfl (lv_at hl 1 rfl) ?_
    refine lv_aload_n hx hb dX7_note_22 rfl (lv_at hl 0 rfl) ?_
    refine va_get (D := D) (ci := 7) (v := .ref a_M_book) (C := RX7) (T := TX7) (N := 19) hx hb hts inlX7 hown hK hP 0 rfl rfl 9 (by decide) (hts _ kw_90) (fun _ h9 => h9) rfl dX7_note_23 ?_
    refine lv_iload_n hx hb dX7_note_26 rfl (lv_at hl 1 rfl) ?_
    refine lv_bipush (v := (9 : Int32)) hx hb dX7_note_27 (by decide) ?_
    refine lv_iadd hx hb dX7_note_29 ?_
    obtain ⟨hb2, h⟩ := oc_else h
    refine va_iald hx hb hK hP 7 0 rfl rfl hb2 dX7_note_30 ?_
    obtain ⟨hb3, h⟩ := oc_else h
    refine va_iast hx hb hK hP hD hS 7 0 rfl rfl hb3 dX7_note_31 (fun H locs hP hD hS => ?_)
    have hP : va_P D vwCl (WD16 cI cC cZ a_M a_M_text a_M_plan a_M_read a_M_readPage a_M_page a_M_trial a_M_book a_M_kept a_M_isKept a_M_seenPoint a_M_seenSum a_M_seenWas M_thrown M_textSize M_place M_doings M_seen M_seed M_bestSet M_text M_plan M_read M_readPage M_page M_trial (upd M_book (Int32.toNatClampNeg p1) (M_book (Int32.toNatClampNeg (p1 + (9 : Int32))))) M_kept M_isKept M_seenPoint M_seenSum M_seenWas) H := hP
    have hD : va_D A (WD16 cI cC cZ a_M a_M_text a_M_plan a_M_read a_M_readPage a_M_page a_M_trial a_M_book a_M_kept a_M_isKept a_M_seenPoint a_M_seenSum a_M_seenWas M_thrown M_textSize M_place M_doings M_seen M_seed M_bestSet M_text M_plan M_read M_readPage M_page M_trial (upd M_book (Int32.toNatClampNeg p1) (M_book (Int32.toNatClampNeg (p1 + (9 : Int32))))) M_kept M_isKept M_seenPoint M_seenSum M_seenWas) := hD
    obtain ⟨t4, e_t4⟩ : ∃ y : Int32, y = p1 + (1 : Int32) := ⟨_, rfl⟩
    have h := oc_nm e_t4 h
    refine lv_iinc (v := t4) (lv' := [(1, .int t4), (0, .ref a_M)]) hx hb dX7_note_32 hl (k := 1) rfl (by rw [e_t4]; rfl) (by decide) rfl (fun ls hl => ?_)
    refine lv_goto (tgt := 11) hx hb dX7_note_35 (by decide) ?_
    exact hk11 _ _ h _ _ hP hD hS _ (lv_sub hl [1, 0] rfl)
noncomputable def lp_X7_note_11  (M_doings : Int32) (M_page : Nat → Int32) (n : Nat) : (Nat → Int32) → Int32 → Option (Int32 × (Nat → Int32)) := Nat.rec (motive := fun _ => (Nat → Int32) → Int32 → Option (Int32 × (Nat → Int32))) (fun _ _ => none) (fun _ ih => bk_X7_note_11  ih M_doings M_page) n
set_option maxHeartbeats 4000000 in
set_option maxRecDepth 100000 in
theorem wl_X7_note_11 {p : Program} {l : Launch} {e : Env} {s : State} {m : MethodId} {args : Array Value} {below : List Frame} {meth : Method} {c : Code} {D : va_G} {cI cC cZ : ClassId} {A : Nat → Prop} {a_M a_M_text a_M_plan a_M_read a_M_readPage a_M_page a_M_trial a_M_book a_M_kept a_M_isKept a_M_seenPoint a_M_seenSum a_M_seenWas : Nat} {M_thrown : Int32} {M_textSize : Int32} {M_place : Int32} {M_doings : Int32} {M_seen : Int32} {M_seed : Int64} {M_bestSet : Int32} {M_text : Nat → Int32} {M_plan : Nat → Int32} {M_read : Nat → Int32} {M_readPage : Nat → Int32} {M_page : Nat → Int32} {M_trial : Nat → Int32} {M_kept : Nat → Int32} {M_isKept : Nat → Int32} {M_seenPoint : Nat → Int32} {M_seenSum : Nat → Int32} {M_seenWas : Nat → Int32}  {u_M_doings : Int32} {u_M_book : Nat → Int32} (C0 : kC p s m args meth c D (kTY cI cC cZ) cX7_note none 2 RX7 A)  : ∀ (n : Nat) (M_book : Nat → Int32) (p1 : Int32), lp_X7_note_11  M_doings M_page n M_book p1 = some (u_M_doings, u_M_book) → ∀ (H : Heap) (locs : List Loc), va_P D vwCl (WD16 cI cC cZ a_M a_M_text a_M_plan a_M_read a_M_readPage a_M_page a_M_trial a_M_book a_M_kept a_M_isKept a_M_seenPoint a_M_seenSum a_M_seenWas M_thrown M_textSize M_place M_doings M_seen M_seed M_bestSet M_text M_plan M_read M_readPage M_page M_trial M_book M_kept M_isKept M_seenPoint M_seenSum M_seenWas) H → va_D A (WD16 cI cC cZ a_M a_M_text a_M_plan a_M_read a_M_readPage a_M_page a_M_trial a_M_book a_M_kept a_M_isKept a_M_seenPoint a_M_seenSum a_M_seenWas M_thrown M_textSize M_place M_doings M_seen M_seed M_bestSet M_text M_plan M_read M_readPage M_page M_trial M_book M_kept M_isKept M_seenPoint M_seenSum M_seenWas) → va_S A s.heap H locs → ∀ ls : Array Slot, lv_has ls 2 [(0, .ref a_M), (1, .int p1)] → W p l e rm_X7_note s m args below meth c H locs 0 0 (MQ below (kQV D (kTY cI cC cZ) A (WD16 cI cC cZ a_M a_M_text a_M_plan a_M_read a_M_readPage a_M_page a_M_trial a_M_book a_M_kept a_M_isKept a_M_seenPoint a_M_seenSum a_M_seenWas M_thrown M_textSize M_place u_M_doings M_seen M_seed M_bestSet M_text M_plan M_read M_readPage M_page M_trial u_M_book M_kept M_isKept M_seenPoint M_seenSum M_seenWas)) args s 0 0 A) (F0 m 11 ls []) := by
  intro n
  induction n with
  | zero => intro M_book p1 h; cases (show (none : Option (Int32 × (Nat → Int32))) = some _ from h)
  | succ n ih =>
    intro M_book p1 h H locs hP hD hS ls hl
    exact wk_X7_note_11 C0  (fun M_book p1 h H locs hP hD hS ls hl => ih M_book p1 h H locs hP hD hS ls hl) (show bk_X7_note_11  (lp_X7_note_11  M_doings M_page n) M_doings M_page M_book p1 = some _ from h) hP hD hS hl
noncomputable def f_X7_note (M_doings : Int32) (M_page : Nat → Int32) (M_book : Nat → Int32)  : Option (Int32 × (Nat → Int32)) := if M_doings = (14 : Int32) then (lp_X7_note_11  M_doings M_page 1000 M_book (0 : Int32)) else (lp_X7_note_50  M_doings M_page 1000 M_book (0 : Int32))
set_option maxHeartbeats 4000000 in
set_option maxRecDepth 100000 in
theorem c_X7_note (l : Launch) (D : va_G) (cI cC cZ : ClassId) (a_M a_M_text a_M_plan a_M_read a_M_readPage a_M_page a_M_trial a_M_book a_M_kept a_M_isKept a_M_seenPoint a_M_seenSum a_M_seenWas : Nat) (sz : Nat) (M_thrown : Int32) (M_textSize : Int32) (M_place : Int32) (M_doings : Int32) (M_seen : Int32) (M_seed : Int64) (M_bestSet : Int32) (M_text : Nat → Int32) (M_plan : Nat → Int32) (M_read : Nat → Int32) (M_readPage : Nat → Int32) (M_page : Nat → Int32) (M_trial : Nat → Int32) (M_book : Nat → Int32) (M_kept : Nat → Int32) (M_isKept : Nat → Int32) (M_seenPoint : Nat → Int32) (M_seenSum : Nat → Int32) (M_seenWas : Nat → Int32) (u_M_doings : Int32) (u_M_book : Nat → Int32) (hf : f_X7_note M_doings M_page M_book = some (u_M_doings, u_M_book)) : kMet l yX7_note cX7_note 2 none rm_X7_note D (kTY cI cC cZ) [.ref a_M] (WD16 cI cC cZ a_M a_M_text a_M_plan a_M_read a_M_readPage a_M_page a_M_trial a_M_book a_M_kept a_M_isKept a_M_seenPoint a_M_seenSum a_M_seenWas M_thrown M_textSize M_place M_doings M_seen M_seed M_bestSet M_text M_plan M_read M_readPage M_page M_trial M_book M_kept M_isKept M_seenPoint M_seenSum M_seenWas) sz (kQV D (kTY cI cC cZ) (va_A (WD16 cI cC cZ a_M a_M_text a_M_plan a_M_read a_M_readPage a_M_page a_M_trial a_M_book a_M_kept a_M_isKept a_M_seenPoint a_M_seenSum a_M_seenWas M_thrown M_textSize M_place M_doings M_seen M_seed M_bestSet M_text M_plan M_read M_readPage M_page M_trial M_book M_kept M_isKept M_seenPoint M_seenSum M_seenWas) sz) (WD16 cI cC cZ a_M a_M_text a_M_plan a_M_read a_M_readPage a_M_page a_M_trial a_M_book a_M_kept a_M_isKept a_M_seenPoint a_M_seenSum a_M_seenWas M_thrown M_textSize M_place u_M_doings M_seen M_seed M_bestSet M_text M_plan M_read M_readPage M_page M_trial u_M_book M_kept M_isKept M_seenPoint M_seenSum M_seenWas)) := by
  refine kEnter (lv := [(0, .ref a_M)]) (own := RX7) (by decide) rfl (Nat.le_of_ble_eq_true rfl) rfl ?_
  intro p e s m below meth c hsz C0 hP hD hS ls hl
  generalize (va_A (WD16 cI cC cZ a_M a_M_text a_M_plan a_M_read a_M_readPage a_M_page a_M_trial a_M_book a_M_kept a_M_isKept a_M_seenPoint a_M_seenSum a_M_seenWas M_thrown M_textSize M_place M_doings M_seen M_seed M_bestSet M_text M_plan M_read M_readPage M_page M_trial M_book M_kept M_isKept M_seenPoint M_seenSum M_seenWas) sz) = A at C0 hD hS ⊢
  clear hsz hS
  obtain ⟨H, hHs⟩ : ∃ H : Heap, H = s.heap := ⟨_, rfl⟩
  have hS : va_S A s.heap H [] := by rw [hHs]; exact va_S.rf
  rw [← hHs] at hP ⊢
  obtain ⟨hx, hb, hr, hml, hown, hts, hK, hN, hA, hlocks, hF⟩ := id C0
  have h := hf
  unfold f_X7_note at h
  refine lv_aload_n hx hb dX7_note_0 rfl (lv_at hl 0 rfl) ?_
  refine va_get (D := D) (ci := 7) (v := .int M_doings) (C := RX7) (T := TX7) (N := 19) hx hb hts inlX7 hown hK hP 0 rfl rfl 10 (by decide) (hts _ kw_269) (fun _ h9 => h9) rfl dX7_note_1 ?_
  refine lv_bipush (v := (14 : Int32)) hx hb dX7_note_4 (by decide) ?_
  refine lv_icmp_ne (tgt := 48) hx hb dX7_note_6 (by decide) (fun c1 => ?_) (fun c1 => ?_)
  · have h := oc_f c1 h
    refine lv_iconst (v := (0 : Int32)) hx hb dX7_note_48 (by decide) ?_
    refine lv_istore_n (lv' := [(1, .int (0 : Int32)), (0, .ref a_M)]) hx hb dX7_note_49 rfl hl (by decide) rfl (fun ls hl => ?_)
    exact wl_X7_note_50 C0  _ _ _ h _ _ hP hD hS _ (lv_sub hl [1, 0] rfl)
  · have h := oc_t c1 h
    refine lv_iconst (v := (0 : Int32)) hx hb dX7_note_9 (by decide) ?_
    refine lv_istore_n (lv' := [(1, .int (0 : Int32)), (0, .ref a_M)]) hx hb dX7_note_10 rfl hl (by decide) rfl (fun ls hl => ?_)
    exact wl_X7_note_11 C0  _ _ _ h _ _ hP hD hS _ (lv_sub hl [1, 0] rfl)
abbrev rm_X7_hangOn : Room := { frames := 0, cells := 0, slots := 0, locals := 0 }
noncomputable def f_X7_hangOn (U : Nat → Int32) (p1 : Int32) : Option ((Nat → Int32)) := some (upd (upd U (Int32.toNatClampNeg (0 : Int32)) ((U (Int32.toNatClampNeg (0 : Int32))) ^^^ ((1 : Int32) <<< (p1 &&& 31)))) (Int32.toNatClampNeg (1 : Int32)) (((upd U (Int32.toNatClampNeg (0 : Int32)) ((U (Int32.toNatClampNeg (0 : Int32))) ^^^ ((1 : Int32) <<< (p1 &&& 31)))) (Int32.toNatClampNeg (1 : Int32))) &&& (((1 : Int32) <<< (p1 &&& 31)) ^^^ (-1 : Int32))))
set_option maxHeartbeats 4000000 in
set_option maxRecDepth 100000 in
theorem c_X7_hangOn (l : Launch) (D : va_G) (cI cC cZ : ClassId) (a_U : Nat) (sz : Nat) (U : Nat → Int32) (p1 : Int32) (u_U : Nat → Int32) (hf : f_X7_hangOn U p1 = some u_U) : kMet l yX7_hangOn cX7_hangOn 2 none rm_X7_hangOn D (kTY cI cC cZ) [.ref a_U, .int p1] (WD17 cI cC cZ a_U U) sz (kQV D (kTY cI cC cZ) (va_A (WD17 cI cC cZ a_U U) sz) (WD17 cI cC cZ a_U u_U)) := by
  refine kEnter (lv := [(0, .ref a_U), (1, .int p1)]) (own := RX7) (by decide) rfl (Nat.le_of_ble_eq_true rfl) rfl ?_
  intro p e s m below meth c hsz C0 hP hD hS ls hl
  generalize (va_A (WD17 cI cC cZ a_U U) sz) = A at C0 hD hS ⊢
  clear hsz hS
  obtain ⟨H, hHs⟩ : ∃ H : Heap, H = s.heap := ⟨_, rfl⟩
  have hS : va_S A s.heap H [] := by rw [hHs]; exact va_S.rf
  rw [← hHs] at hP ⊢
  obtain ⟨hx, hb, hr, hml, hown, hts, hK, hN, hA, hlocks, hF⟩ := id C0
  have h := hf
  unfold f_X7_hangOn at h
  refine lv_aload_n hx hb dX7_hangOn_0 rfl (lv_at hl 0 rfl) ?_
  refine lv_iconst (v := (0 : Int32)) hx hb dX7_hangOn_1 (by decide) ?_
  refine lv_dup2_11 hx hb dX7_hangOn_2 rfl rfl ?_
  refine va_iald hx hb hK hP 0 0 rfl rfl (show ¬ ((0 : Int32) < 0 ∨ 9 ≤ Int32.toNatClampNeg (0 : Int32)) by decide) dX7_hangOn_3 ?_
  refine lv_iconst (v := (1 : Int32)) hx hb dX7_hangOn_4 (by decide) ?_
  refine lv_iload_n hx hb dX7_hangOn_5 rfl (lv_at hl 1 rfl) ?_
  refine lv_ishl hx hb dX7_hangOn_6 ?_
  refine lv_ixor hx hb dX7_hangOn_7 ?_
  refine va_iast hx hb hK hP hD hS 0 0 rfl rfl (show ¬ ((0 : Int32) < 0 ∨ 9 ≤ Int32.toNatClampNeg (0 : Int32)) by decide) dX7_hangOn_8 (fun H locs hP hD hS => ?_)
  have hP : va_P D vwCl (WD17 cI cC cZ a_U (upd U (Int32.toNatClampNeg (0 : Int32)) ((U (Int32.toNatClampNeg (0 : Int32))) ^^^ ((1 : Int32) <<< (p1 &&& 31))))) H := hP
  have hD : va_D A (WD17 cI cC cZ a_U (upd U (Int32.toNatClampNeg (0 : Int32)) ((U (Int32.toNatClampNeg (0 : Int32))) ^^^ ((1 : Int32) <<< (p1 &&& 31))))) := hD
  refine lv_aload_n hx hb dX7_hangOn_9 rfl (lv_at hl 0 rfl) ?_
  refine lv_iconst (v := (1 : Int32)) hx hb dX7_hangOn_10 (by decide) ?_
  refine lv_dup2_11 hx hb dX7_hangOn_11 rfl rfl ?_
  refine va_iald hx hb hK hP 0 0 rfl rfl (show ¬ ((1 : Int32) < 0 ∨ 9 ≤ Int32.toNatClampNeg (1 : Int32)) by decide) dX7_hangOn_12 ?_
  refine lv_iconst (v := (1 : Int32)) hx hb dX7_hangOn_13 (by decide) ?_
  refine lv_iload_n hx hb dX7_hangOn_14 rfl (lv_at hl 1 rfl) ?_
  refine lv_ishl hx hb dX7_hangOn_15 ?_
  refine lv_iconst (v := (-1 : Int32)) hx hb dX7_hangOn_16 (by decide) ?_
  refine lv_ixor hx hb dX7_hangOn_17 ?_
  refine lv_iand hx hb dX7_hangOn_18 ?_
  refine va_iast hx hb hK hP hD hS 0 0 rfl rfl (show ¬ ((1 : Int32) < 0 ∨ 9 ≤ Int32.toNatClampNeg (1 : Int32)) by decide) dX7_hangOn_19 (fun H locs hP hD hS => ?_)
  have hP : va_P D vwCl (WD17 cI cC cZ a_U (upd (upd U (Int32.toNatClampNeg (0 : Int32)) ((U (Int32.toNatClampNeg (0 : Int32))) ^^^ ((1 : Int32) <<< (p1 &&& 31)))) (Int32.toNatClampNeg (1 : Int32)) (((upd U (Int32.toNatClampNeg (0 : Int32)) ((U (Int32.toNatClampNeg (0 : Int32))) ^^^ ((1 : Int32) <<< (p1 &&& 31)))) (Int32.toNatClampNeg (1 : Int32))) &&& (((1 : Int32) <<< (p1 &&& 31)) ^^^ (-1 : Int32))))) H := hP
  have hD : va_D A (WD17 cI cC cZ a_U (upd (upd U (Int32.toNatClampNeg (0 : Int32)) ((U (Int32.toNatClampNeg (0 : Int32))) ^^^ ((1 : Int32) <<< (p1 &&& 31)))) (Int32.toNatClampNeg (1 : Int32)) (((upd U (Int32.toNatClampNeg (0 : Int32)) ((U (Int32.toNatClampNeg (0 : Int32))) ^^^ ((1 : Int32) <<< (p1 &&& 31)))) (Int32.toNatClampNeg (1 : Int32))) &&& (((1 : Int32) <<< (p1 &&& 31)) ^^^ (-1 : Int32))))) := hD
  cases h
  exact kret_v C0 hP hD hS dX7_hangOn_20
abbrev rm_X7_hang : Room := { frames := 2, cells := 0, slots := 0, locals := 46 }
noncomputable def f_X7_hang (M_thrown : Int32) (M_doings : Int32) (M_plan : Nat → Int32) (M_page : Nat → Int32) (M_book : Nat → Int32) (p1 : Int32) : Option (Int32 × Int32 × Int32 × (Nat → Int32) × (Nat → Int32)) := (f_X7_noSpot M_plan p1).bind (fun r2 => if r2 = 0 then ((f_X7_note M_doings M_page M_book).bind (fun z => un2 z (fun u5 u6 => (f_X7_hangOn M_page p1).bind (fun u8 => (f_X7_ones (u8 (Int32.toNatClampNeg (0 : Int32)))).bind (fun r10 => some (r10, (0 : Int32), u5, u8, u6)))))) else (some ((-1 : Int32), (0 : Int32), M_doings, M_page, M_book)))
set_option maxHeartbeats 4000000 in
set_option maxRecDepth 100000 in
theorem c_X7_hang (l : Launch) (D : va_G) (cI cC cZ : ClassId) (a_M a_M_text a_M_plan a_M_read a_M_readPage a_M_page a_M_trial a_M_book a_M_kept a_M_isKept a_M_seenPoint a_M_seenSum a_M_seenWas : Nat) (sz : Nat) (M_thrown : Int32) (M_textSize : Int32) (M_place : Int32) (M_doings : Int32) (M_seen : Int32) (M_seed : Int64) (M_bestSet : Int32) (M_text : Nat → Int32) (M_plan : Nat → Int32) (M_read : Nat → Int32) (M_readPage : Nat → Int32) (M_page : Nat → Int32) (M_trial : Nat → Int32) (M_book : Nat → Int32) (M_kept : Nat → Int32) (M_isKept : Nat → Int32) (M_seenPoint : Nat → Int32) (M_seenSum : Nat → Int32) (M_seenWas : Nat → Int32) (p1 : Int32) (rr : Int32) (u_M_thrown : Int32) (u_M_doings : Int32) (u_M_page : Nat → Int32) (u_M_book : Nat → Int32) (hf : f_X7_hang M_thrown M_doings M_plan M_page M_book p1 = some (rr, u_M_thrown, u_M_doings, u_M_page, u_M_book)) : kMet l yX7_hang cX7_hang 2 (some .int) rm_X7_hang D (kTY cI cC cZ) [.ref a_M, .int p1] (WD16 cI cC cZ a_M a_M_text a_M_plan a_M_read a_M_readPage a_M_page a_M_trial a_M_book a_M_kept a_M_isKept a_M_seenPoint a_M_seenSum a_M_seenWas M_thrown M_textSize M_place M_doings M_seen M_seed M_bestSet M_text M_plan M_read M_readPage M_page M_trial M_book M_kept M_isKept M_seenPoint M_seenSum M_seenWas) sz (kQI D (kTY cI cC cZ) (va_A (WD16 cI cC cZ a_M a_M_text a_M_plan a_M_read a_M_readPage a_M_page a_M_trial a_M_book a_M_kept a_M_isKept a_M_seenPoint a_M_seenSum a_M_seenWas M_thrown M_textSize M_place M_doings M_seen M_seed M_bestSet M_text M_plan M_read M_readPage M_page M_trial M_book M_kept M_isKept M_seenPoint M_seenSum M_seenWas) sz) rr (WD16 cI cC cZ a_M a_M_text a_M_plan a_M_read a_M_readPage a_M_page a_M_trial a_M_book a_M_kept a_M_isKept a_M_seenPoint a_M_seenSum a_M_seenWas u_M_thrown M_textSize M_place u_M_doings M_seen M_seed M_bestSet M_text M_plan M_read M_readPage u_M_page M_trial u_M_book M_kept M_isKept M_seenPoint M_seenSum M_seenWas)) := by
  refine kEnter (lv := [(0, .ref a_M), (1, .int p1)]) (own := RX7) (by decide) rfl (Nat.le_of_ble_eq_true rfl) rfl ?_
  intro p e s m below meth c hsz C0 hP hD hS ls hl
  generalize (va_A (WD16 cI cC cZ a_M a_M_text a_M_plan a_M_read a_M_readPage a_M_page a_M_trial a_M_book a_M_kept a_M_isKept a_M_seenPoint a_M_seenSum a_M_seenWas M_thrown M_textSize M_place M_doings M_seen M_seed M_bestSet M_text M_plan M_read M_readPage M_page M_trial M_book M_kept M_isKept M_seenPoint M_seenSum M_seenWas) sz) = A at C0 hD hS ⊢
  clear hsz hS
  obtain ⟨H, hHs⟩ : ∃ H : Heap, H = s.heap := ⟨_, rfl⟩
  have hS : va_S A s.heap H [] := by rw [hHs]; exact va_S.rf
  rw [← hHs] at hP ⊢
  obtain ⟨hx, hb, hr, hml, hown, hts, hK, hN, hA, hlocks, hF⟩ := id C0
  have h := hf
  unfold f_X7_hang at h
  refine lv_aload_n hx hb dX7_hang_0 rfl (lv_at hl 0 rfl) ?_
  refine lv_iconst (v := (0 : Int32)) hx hb dX7_hang_1 (by decide) ?_
  refine va_put (D := D) (ci := 7) (v := .int (0 : Int32)) (ty := .int) (C := RX7) (T := TX7) (N := 19) hx hb hts inlX7 tyX7 tyX7_ok nmX7 hown hK hP hD hS 0 rfl rfl 0 (by decide) (hts _ kw_109) (fun _ h9 => h9) rfl (by decide +kernel) rfl rfl (Nat.le_of_ble_eq_true rfl) dX7_hang_2 (fun H locs hP hD hS => ?_)
  have hP : va_P D vwCl (WD16 cI cC cZ a_M a_M_text a_M_plan a_M_read a_M_readPage a_M_page a_M_trial a_M_book a_M_kept a_M_isKept a_M_seenPoint a_M_seenSum a_M_seenWas (0 : Int32) M_textSize M_place M_doings M_seen M_seed M_bestSet M_text M_plan M_read M_readPage M_page M_trial M_book M_kept M_isKept M_seenPoint M_seenSum M_seenWas) H := hP
  have hD : va_D A (WD16 cI cC cZ a_M a_M_text a_M_plan a_M_read a_M_readPage a_M_page a_M_trial a_M_book a_M_kept a_M_isKept a_M_seenPoint a_M_seenSum a_M_seenWas (0 : Int32) M_textSize M_place M_doings M_seen M_seed M_bestSet M_text M_plan M_read M_readPage M_page M_trial M_book M_kept M_isKept M_seenPoint M_seenSum M_seenWas) := hD
  refine lv_aload_n hx hb dX7_hang_5 rfl (lv_at hl 0 rfl) ?_
  refine lv_iload_n hx hb dX7_hang_6 rfl (lv_at hl 1 rfl) ?_
  obtain ⟨r2, hc1, h⟩ := oc_bind h
  refine kro_i (wc := (WD16 cI cC cZ a_M a_M_text a_M_plan a_M_read a_M_readPage a_M_page a_M_trial a_M_book a_M_kept a_M_isKept a_M_seenPoint a_M_seenSum a_M_seenWas (0 : Int32) M_textSize M_place M_doings M_seen M_seed M_bestSet M_text M_plan M_read M_readPage M_page M_trial M_book M_kept M_isKept M_seenPoint M_seenSum M_seenWas)) C0 hP hD hS [0, 1, 2, 3, 4, 5, 6, 7, 8, 9, 10, 11, 12] rfl (kV (n := 1) (As := [.int p1]) (rest := []) (wc := (WD16 cI cC cZ a_M a_M_text a_M_plan a_M_read a_M_readPage a_M_page a_M_trial a_M_book a_M_kept a_M_isKept a_M_seenPoint a_M_seenSum a_M_seenWas (0 : Int32) M_textSize M_place M_doings M_seen M_seed M_bestSet M_text M_plan M_read M_readPage M_page M_trial M_book M_kept M_isKept M_seenPoint M_seenSum M_seenWas)) (C := RX7) C0 hP hD hS [0, 1, 2, 3, 4, 5, 6, 7, 8, 9, 10, 11, 12] rfl (by decide) (c_X7_noSpot l D cI cC cZ a_M a_M_text a_M_plan a_M_read a_M_readPage a_M_page a_M_trial a_M_book a_M_kept a_M_isKept a_M_seenPoint a_M_seenSum a_M_seenWas H.size (0 : Int32) M_textSize M_place M_doings M_seen M_seed M_bestSet M_text M_plan M_read M_readPage M_page M_trial M_book M_kept M_isKept M_seenPoint M_seenSum M_seenWas p1 r2 hc1) kw_299 kw_296 kw_297 kw_298 kw_5 (by decide +kernel) (by decide) rfl rfl rfl hl.1 rfl (Nat.le_of_ble_eq_true rfl) ⟨Nat.zero_le _, Nat.zero_le _⟩ dX7_hang_7) (fun H locs hP hS => ?_)
  refine lv_if_eq (tgt := 15) hx hb dX7_hang_10 (by decide) (fun c3 => ?_) (fun c3 => ?_)
  · have h := oc_t c3 h
    refine lv_aload_n hx hb dX7_hang_15 rfl (lv_at hl 0 rfl) ?_
    obtain ⟨u5, u6, hc4, h⟩ := oc_b2 h
    refine kgo_v (wc := (WD16 cI cC cZ a_M a_M_text a_M_plan a_M_read a_M_readPage a_M_page a_M_trial a_M_book a_M_kept a_M_isKept a_M_seenPoint a_M_seenSum a_M_seenWas (0 : Int32) M_textSize M_place M_doings M_seen M_seed M_bestSet M_text M_plan M_read M_readPage M_page M_trial M_book M_kept M_isKept M_seenPoint M_seenSum M_seenWas)) (wc' := (WD16 cI cC cZ a_M a_M_text a_M_plan a_M_read a_M_readPage a_M_page a_M_trial a_M_book a_M_kept a_M_isKept a_M_seenPoint a_M_seenSum a_M_seenWas (0 : Int32) M_textSize M_place u5 M_seen M_seed M_bestSet M_text M_plan M_read M_readPage M_page M_trial u6 M_kept M_isKept M_seenPoint M_seenSum M_seenWas)) (ws' := (WD16 cI cC cZ a_M a_M_text a_M_plan a_M_read a_M_readPage a_M_page a_M_trial a_M_book a_M_kept a_M_isKept a_M_seenPoint a_M_seenSum a_M_seenWas (0 : Int32) M_textSize M_place u5 M_seen M_seed M_bestSet M_text M_plan M_read M_readPage M_page M_trial u6 M_kept M_isKept M_seenPoint M_seenSum M_seenWas)) C0 hP hD hS [0, 1, 2, 3, 4, 5, 6, 7, 8, 9, 10, 11, 12] [] [0, 1, 2, 3, 4, 5, 6, 7, 8, 9, 10, 11, 12] [] rfl rfl (by decide) (by decide) rfl (by decide) (kV (n := 0) (As := []) (rest := []) (wc := (WD16 cI cC cZ a_M a_M_text a_M_plan a_M_read a_M_readPage a_M_page a_M_trial a_M_book a_M_kept a_M_isKept a_M_seenPoint a_M_seenSum a_M_seenWas (0 : Int32) M_textSize M_place M_doings M_seen M_seed M_bestSet M_text M_plan M_read M_readPage M_page M_trial M_book M_kept M_isKept M_seenPoint M_seenSum M_seenWas)) (C := RX7) C0 hP hD hS [0, 1, 2, 3, 4, 5, 6, 7, 8, 9, 10, 11, 12] rfl (by decide) (c_X7_note l D cI cC cZ a_M a_M_text a_M_plan a_M_read a_M_readPage a_M_page a_M_trial a_M_book a_M_kept a_M_isKept a_M_seenPoint a_M_seenSum a_M_seenWas H.size (0 : Int32) M_textSize M_place M_doings M_seen M_seed M_bestSet M_text M_plan M_read M_readPage M_page M_trial M_book M_kept M_isKept M_seenPoint M_seenSum M_seenWas  u5 u6 hc4) kw_458 kw_455 kw_456 kw_457 kw_5 (by decide +kernel) (by decide) rfl rfl rfl hl.1 rfl (Nat.le_of_ble_eq_true rfl) ⟨Nat.zero_le _, Nat.zero_le _⟩ dX7_hang_16) (fun H locs hP hD hS => ?_)
    refine lv_aload_n hx hb dX7_hang_19 rfl (lv_at hl 0 rfl) ?_
    refine va_get (D := D) (ci := 7) (v := .ref a_M_page) (C := RX7) (T := TX7) (N := 19) hx hb hts inlX7 hown hK hP 0 rfl rfl 7 (by decide) (hts _ kw_88) (fun _ h9 => h9) rfl dX7_hang_20 ?_
    refine lv_iload_n hx hb dX7_hang_23 rfl (lv_at hl 1 rfl) ?_
    obtain ⟨u8, hc7, h⟩ := oc_bind h
    refine kgo_v (wc := (WD17 cI cC cZ a_M_page M_page)) (wc' := (WD17 cI cC cZ a_M_page u8)) (ws' := (WD16 cI cC cZ a_M a_M_text a_M_plan a_M_read a_M_readPage a_M_page a_M_trial a_M_book a_M_kept a_M_isKept a_M_seenPoint a_M_seenSum a_M_seenWas (0 : Int32) M_textSize M_place u5 M_seen M_seed M_bestSet M_text M_plan M_read M_readPage u8 M_trial u6 M_kept M_isKept M_seenPoint M_seenSum M_seenWas)) C0 hP hD hS [5] [0, 1, 2, 3, 4, 6, 7, 8, 9, 10, 11, 12] [0, 1, 2, 3, 4, 12, 5, 6, 7, 8, 9, 10, 11] [(a_M, .inr (7, [.int (0 : Int32), .ref a_M_text, .int M_textSize, .int M_place, .ref a_M_plan, .ref a_M_read, .ref a_M_readPage, .ref a_M_page, .ref a_M_trial, .ref a_M_book, .int u5, .ref a_M_kept, .ref a_M_isKept, .int M_seen, .ref a_M_seenPoint, .ref a_M_seenSum, .ref a_M_seenWas, .long M_seed, .int M_bestSet])), (a_M_text, .inl (cI, 99, .inl M_text)), (a_M_plan, .inl (cI, 78, .inl M_plan)), (a_M_read, .inl (cI, 78, .inl M_read)), (a_M_readPage, .inl (cI, 9, .inl M_readPage)), (a_M_trial, .inl (cI, 9, .inl M_trial)), (a_M_book, .inl (cI, 126, .inl u6)), (a_M_kept, .inl (cI, 18, .inl M_kept)), (a_M_isKept, .inl (cZ, 2, .inl M_isKept)), (a_M_seenPoint, .inl (cI, 6, .inl M_seenPoint)), (a_M_seenSum, .inl (cI, 6, .inl M_seenSum)), (a_M_seenWas, .inl (cI, 6, .inl M_seenWas))] rfl rfl (by decide) (by decide) rfl (by decide) (kS (n := 2) (As := [.ref a_M_page, .int p1]) (rest := []) (wc := (WD17 cI cC cZ a_M_page M_page)) C0 hP hD hS [5] rfl (by decide) (c_X7_hangOn l D cI cC cZ a_M_page H.size M_page p1 u8 hc7) kw_461 kw_459 kw_460 kw_5 (by decide +kernel) (by decide) rfl hl.1 rfl (Nat.le_of_ble_eq_true rfl) ⟨Nat.zero_le _, Nat.zero_le _⟩ dX7_hang_24) (fun H locs hP hD hS => ?_)
    refine lv_aload_n hx hb dX7_hang_27 rfl (lv_at hl 0 rfl) ?_
    refine va_get (D := D) (ci := 7) (v := .ref a_M_page) (C := RX7) (T := TX7) (N := 19) hx hb hts inlX7 hown hK hP 0 rfl rfl 7 (by decide) (hts _ kw_88) (fun _ h9 => h9) rfl dX7_hang_28 ?_
    refine lv_iconst (v := (0 : Int32)) hx hb dX7_hang_31 (by decide) ?_
    refine va_iald hx hb hK hP 5 0 rfl rfl (show ¬ ((0 : Int32) < 0 ∨ 9 ≤ Int32.toNatClampNeg (0 : Int32)) by decide) dX7_hang_32 ?_
    obtain ⟨r10, hc9, h⟩ := oc_bind h
    refine kro_i (wc := (WD0 cI cC cZ)) C0 hP hD hS [] rfl (kS (n := 1) (As := [.int (u8 (Int32.toNatClampNeg (0 : Int32)))]) (rest := []) (wc := (WD0 cI cC cZ)) C0 hP hD hS [] rfl (by decide) (c_X7_ones l D cI cC cZ  H.size  (u8 (Int32.toNatClampNeg (0 : Int32))) r10 hc9) kw_464 kw_462 kw_463 kw_5 (by decide +kernel) (by decide) rfl hl.1 rfl (Nat.le_of_ble_eq_true rfl) ⟨Nat.zero_le _, Nat.zero_le _⟩ dX7_hang_33) (fun H locs hP hS => ?_)
    cases h
    exact kret_i C0 hP hD hS rfl dX7_hang_36
  · have h := oc_f c3 h
    refine lv_iconst (v := (-1 : Int32)) hx hb dX7_hang_13 (by decide) ?_
    cases h
    exact kret_i C0 hP hD hS rfl dX7_hang_14
abbrev rm_X7_die : Room := { frames := 2, cells := 0, slots := 0, locals := 46 }
noncomputable def f_X7_die (M_thrown : Int32) (M_doings : Int32) (M_plan : Nat → Int32) (M_page : Nat → Int32) (M_book : Nat → Int32) (p1 : Int32) : Option (Int32 × Int32 × Int32 × (Nat → Int32) × (Nat → Int32)) := (f_X7_noSpot M_plan p1).bind (fun r2 => if r2 = 0 then ((f_X7_has (M_page (Int32.toNatClampNeg (0 : Int32))) p1).bind (fun r5 => if r5 = 0 then (some ((-3 : Int32), (0 : Int32), M_doings, M_page, M_book)) else ((f_X7_note M_doings M_page M_book).bind (fun z => un2 z (fun u8 u9 => some (((((upd M_page (Int32.toNatClampNeg (1 : Int32)) ((M_page (Int32.toNatClampNeg (1 : Int32))) ^^^ ((1 : Int32) <<< (p1 &&& 31)))) (Int32.toNatClampNeg (1 : Int32))) >>> (p1 &&& 31)) &&& (1 : Int32)), (0 : Int32), u8, (upd M_page (Int32.toNatClampNeg (1 : Int32)) ((M_page (Int32.toNatClampNeg (1 : Int32))) ^^^ ((1 : Int32) <<< (p1 &&& 31)))), u9)))))) else (some ((-1 : Int32), (0 : Int32), M_doings, M_page, M_book)))
set_option maxHeartbeats 4000000 in
set_option maxRecDepth 100000 in
theorem c_X7_die (l : Launch) (D : va_G) (cI cC cZ : ClassId) (a_M a_M_text a_M_plan a_M_read a_M_readPage a_M_page a_M_trial a_M_book a_M_kept a_M_isKept a_M_seenPoint a_M_seenSum a_M_seenWas : Nat) (sz : Nat) (M_thrown : Int32) (M_textSize : Int32) (M_place : Int32) (M_doings : Int32) (M_seen : Int32) (M_seed : Int64) (M_bestSet : Int32) (M_text : Nat → Int32) (M_plan : Nat → Int32) (M_read : Nat → Int32) (M_readPage : Nat → Int32) (M_page : Nat → Int32) (M_trial : Nat → Int32) (M_book : Nat → Int32) (M_kept : Nat → Int32) (M_isKept : Nat → Int32) (M_seenPoint : Nat → Int32) (M_seenSum : Nat → Int32) (M_seenWas : Nat → Int32) (p1 : Int32) (rr : Int32) (u_M_thrown : Int32) (u_M_doings : Int32) (u_M_page : Nat → Int32) (u_M_book : Nat → Int32) (hf : f_X7_die M_thrown M_doings M_plan M_page M_book p1 = some (rr, u_M_thrown, u_M_doings, u_M_page, u_M_book)) : kMet l yX7_die cX7_die 2 (some .int) rm_X7_die D (kTY cI cC cZ) [.ref a_M, .int p1] (WD16 cI cC cZ a_M a_M_text a_M_plan a_M_read a_M_readPage a_M_page a_M_trial a_M_book a_M_kept a_M_isKept a_M_seenPoint a_M_seenSum a_M_seenWas M_thrown M_textSize M_place M_doings M_seen M_seed M_bestSet M_text M_plan M_read M_readPage M_page M_trial M_book M_kept M_isKept M_seenPoint M_seenSum M_seenWas) sz (kQI D (kTY cI cC cZ) (va_A (WD16 cI cC cZ a_M a_M_text a_M_plan a_M_read a_M_readPage a_M_page a_M_trial a_M_book a_M_kept a_M_isKept a_M_seenPoint a_M_seenSum a_M_seenWas M_thrown M_textSize M_place M_doings M_seen M_seed M_bestSet M_text M_plan M_read M_readPage M_page M_trial M_book M_kept M_isKept M_seenPoint M_seenSum M_seenWas) sz) rr (WD16 cI cC cZ a_M a_M_text a_M_plan a_M_read a_M_readPage a_M_page a_M_trial a_M_book a_M_kept a_M_isKept a_M_seenPoint a_M_seenSum a_M_seenWas u_M_thrown M_textSize M_place u_M_doings M_seen M_seed M_bestSet M_text M_plan M_read M_readPage u_M_page M_trial u_M_book M_kept M_isKept M_seenPoint M_seenSum M_seenWas)) := by
  refine kEnter (lv := [(0, .ref a_M), (1, .int p1)]) (own := RX7) (by decide) rfl (Nat.le_of_ble_eq_true rfl) rfl ?_
  intro p e s m below meth c hsz C0 hP hD hS ls hl
  generalize (va_A (WD16 cI cC cZ a_M a_M_text a_M_plan a_M_read a_M_readPage a_M_page a_M_trial a_M_book a_M_kept a_M_isKept a_M_seenPoint a_M_seenSum a_M_seenWas M_thrown M_textSize M_place M_doings M_seen M_seed M_bestSet M_text M_plan M_read M_readPage M_page M_trial M_book M_kept M_isKept M_seenPoint M_seenSum M_seenWas) sz) = A at C0 hD hS ⊢
  clear hsz hS
  obtain ⟨H, hHs⟩ : ∃ H : Heap, H = s.heap := ⟨_, rfl⟩
  have hS : va_S A s.heap H [] := by rw [hHs]; exact va_S.rf
  rw [← hHs] at hP ⊢
  obtain ⟨hx, hb, hr, hml, hown, hts, hK, hN, hA, hlocks, hF⟩ := id C0
  have h := hf
  unfold f_X7_die at h
  refine lv_aload_n hx hb dX7_die_0 rfl (lv_at hl 0 rfl) ?_
  refine lv_iconst (v := (0 : Int32)) hx hb dX7_die_1 (by decide) ?_
  refine va_put (D := D) (ci := 7) (v := .int (0 : Int32)) (ty := .int) (C := RX7) (T := TX7) (N := 19) hx hb hts inlX7 tyX7 tyX7_ok nmX7 hown hK hP hD hS 0 rfl rfl 0 (by decide) (hts _ kw_109) (fun _ h9 => h9) rfl (by decide +kernel) rfl rfl (Nat.le_of_ble_eq_true rfl) dX7_die_2 (fun H locs hP hD hS => ?_)
  have hP : va_P D vwCl (WD16 cI cC cZ a_M a_M_text a_M_plan a_M_read a_M_readPage a_M_page a_M_trial a_M_book a_M_kept a_M_isKept a_M_seenPoint a_M_seenSum a_M_seenWas (0 : Int32) M_textSize M_place M_doings M_seen M_seed M_bestSet M_text M_plan M_read M_readPage M_page M_trial M_book M_kept M_isKept M_seenPoint M_seenSum M_seenWas) H := hP
  have hD : va_D A (WD16 cI cC cZ a_M a_M_text a_M_plan a_M_read a_M_readPage a_M_page a_M_trial a_M_book a_M_kept a_M_isKept a_M_seenPoint a_M_seenSum a_M_seenWas (0 : Int32) M_textSize M_place M_doings M_seen M_seed M_bestSet M_text M_plan M_read M_readPage M_page M_trial M_book M_kept M_isKept M_seenPoint M_seenSum M_seenWas) := hD
  refine lv_aload_n hx hb dX7_die_5 rfl (lv_at hl 0 rfl) ?_
  refine lv_iload_n hx hb dX7_die_6 rfl (lv_at hl 1 rfl) ?_
  obtain ⟨r2, hc1, h⟩ := oc_bind h
  refine kro_i (wc := (WD16 cI cC cZ a_M a_M_text a_M_plan a_M_read a_M_readPage a_M_page a_M_trial a_M_book a_M_kept a_M_isKept a_M_seenPoint a_M_seenSum a_M_seenWas (0 : Int32) M_textSize M_place M_doings M_seen M_seed M_bestSet M_text M_plan M_read M_readPage M_page M_trial M_book M_kept M_isKept M_seenPoint M_seenSum M_seenWas)) C0 hP hD hS [0, 1, 2, 3, 4, 5, 6, 7, 8, 9, 10, 11, 12] rfl (kV (n := 1) (As := [.int p1]) (rest := []) (wc := (WD16 cI cC cZ a_M a_M_text a_M_plan a_M_read a_M_readPage a_M_page a_M_trial a_M_book a_M_kept a_M_isKept a_M_seenPoint a_M_seenSum a_M_seenWas (0 : Int32) M_textSize M_place M_doings M_seen M_seed M_bestSet M_text M_plan M_read M_readPage M_page M_trial M_book M_kept M_isKept M_seenPoint M_seenSum M_seenWas)) (C := RX7) C0 hP hD hS [0, 1, 2, 3, 4, 5, 6, 7, 8, 9, 10, 11, 12] rfl (by decide) (c_X7_noSpot l D cI cC cZ a_M a_M_text a_M_plan a_M_read a_M_readPage a_M_page a_M_trial a_M_book a_M_kept a_M_isKept a_M_seenPoint a_M_seenSum a_M_seenWas H.size (0 : Int32) M_textSize M_place M_doings M_seen M_seed M_bestSet M_text M_plan M_read M_readPage M_page M_trial M_book M_kept M_isKept M_seenPoint M_seenSum M_seenWas p1 r2 hc1) kw_299 kw_296 kw_297 kw_298 kw_5 (by decide +kernel) (by decide) rfl rfl rfl hl.1 rfl (Nat.le_of_ble_eq_true rfl) ⟨Nat.zero_le _, Nat.zero_le _⟩ dX7_die_7) (fun H locs hP hS => ?_)
  refine lv_if_eq (tgt := 15) hx hb dX7_die_10 (by decide) (fun c3 => ?_) (fun c3 => ?_)
  · have h := oc_t c3 h
    refine lv_aload_n hx hb dX7_die_15 rfl (lv_at hl 0 rfl) ?_
    refine va_get (D := D) (ci := 7) (v := .ref a_M_page) (C := RX7) (T := TX7) (N := 19) hx hb hts inlX7 hown hK hP 0 rfl rfl 7 (by decide) (hts _ kw_88) (fun _ h9 => h9) rfl dX7_die_16 ?_
    refine lv_iconst (v := (0 : Int32)) hx hb dX7_die_19 (by decide) ?_
    refine va_iald hx hb hK hP 5 0 rfl rfl (show ¬ ((0 : Int32) < 0 ∨ 9 ≤ Int32.toNatClampNeg (0 : Int32)) by decide) dX7_die_20 ?_
    refine lv_iload_n hx hb dX7_die_21 rfl (lv_at hl 1 rfl) ?_
    obtain ⟨r5, hc4, h⟩ := oc_bind h
    refine kro_i (wc := (WD0 cI cC cZ)) C0 hP hD hS [] rfl (kS (n := 2) (As := [.int (M_page (Int32.toNatClampNeg (0 : Int32))), .int p1]) (rest := []) (wc := (WD0 cI cC cZ)) C0 hP hD hS [] rfl (by decide) (c_X7_has l D cI cC cZ  H.size  (M_page (Int32.toNatClampNeg (0 : Int32))) p1 r5 hc4) kw_371 kw_369 kw_370 kw_5 (by decide +kernel) (by decide) rfl hl.1 rfl (Nat.le_of_ble_eq_true rfl) ⟨Nat.zero_le _, Nat.zero_le _⟩ dX7_die_22) (fun H locs hP hS => ?_)
    refine lv_if_ne (tgt := 31) hx hb dX7_die_25 (by decide) (fun c6 => ?_) (fun c6 => ?_)
    · have h := oc_f c6 h
      refine lv_aload_n hx hb dX7_die_31 rfl (lv_at hl 0 rfl) ?_
      obtain ⟨u8, u9, hc7, h⟩ := oc_b2 h
      refine kgo_v (wc := (WD16 cI cC cZ a_M a_M_text a_M_plan a_M_read a_M_readPage a_M_page a_M_trial a_M_book a_M_kept a_M_isKept a_M_seenPoint a_M_seenSum a_M_seenWas (0 : Int32) M_textSize M_place M_doings M_seen M_seed M_bestSet M_text M_plan M_read M_readPage M_page M_trial M_book M_kept M_isKept M_seenPoint M_seenSum M_seenWas)) (wc' := (WD16 cI cC cZ a_M a_M_text a_M_plan a_M_read a_M_readPage a_M_page a_M_trial a_M_book a_M_kept a_M_isKept a_M_seenPoint a_M_seenSum a_M_seenWas (0 : Int32) M_textSize M_place u8 M_seen M_seed M_bestSet M_text M_plan M_read M_readPage M_page M_trial u9 M_kept M_isKept M_seenPoint M_seenSum M_seenWas)) (ws' := (WD16 cI cC cZ a_M a_M_text a_M_plan a_M_read a_M_readPage a_M_page a_M_trial a_M_book a_M_kept a_M_isKept a_M_seenPoint a_M_seenSum a_M_seenWas (0 : Int32) M_textSize M_place u8 M_seen M_seed M_bestSet M_text M_plan M_read M_readPage M_page M_trial u9 M_kept M_isKept M_seenPoint M_seenSum M_seenWas)) C0 hP hD hS [0, 1, 2, 3, 4, 5, 6, 7, 8, 9, 10, 11, 12] [] [0, 1, 2, 3, 4, 5, 6, 7, 8, 9, 10, 11, 12] [] rfl rfl (by decide) (by decide) rfl (by decide) (kV (n := 0) (As := []) (rest := []) (wc := (WD16 cI cC cZ a_M a_M_text a_M_plan a_M_read a_M_readPage a_M_page a_M_trial a_M_book a_M_kept a_M_isKept a_M_seenPoint a_M_seenSum a_M_seenWas (0 : Int32) M_textSize M_place M_doings M_seen M_seed M_bestSet M_text M_plan M_read M_readPage M_page M_trial M_book M_kept M_isKept M_seenPoint M_seenSum M_seenWas)) (C := RX7) C0 hP hD hS [0, 1, 2, 3, 4, 5, 6, 7, 8, 9, 10, 11, 12] rfl (by decide) (c_X7_note l D cI cC cZ a_M a_M_text a_M_plan a_M_read a_M_readPage a_M_page a_M_trial a_M_book a_M_kept a_M_isKept a_M_seenPoint a_M_seenSum a_M_seenWas H.size (0 : Int32) M_textSize M_place M_doings M_seen M_seed M_bestSet M_text M_plan M_read M_readPage M_page M_trial M_book M_kept M_isKept M_seenPoint M_seenSum M_seenWas  u8 u9 hc7) kw_458 kw_455 kw_456 kw_457 kw_5 (by decide +kernel) (by decide) rfl rfl rfl hl.1 rfl (Nat.le_of_ble_eq_true rfl) ⟨Nat.zero_le _, Nat.zero_le _⟩ dX7_die_32) (fun H locs hP hD hS => ?_)
      refine lv_aload_n hx hb dX7_die_35 rfl (lv_at hl 0 rfl) ?_
      refine va_get (D := D) (ci := 7) (v := .ref a_M_page) (C := RX7) (T := TX7) (N := 19) hx hb hts inlX7 hown hK hP 0 rfl rfl 7 (by decide) (hts _ kw_88) (fun _ h9 => h9) rfl dX7_die_36 ?_
      refine lv_iconst (v := (1 : Int32)) hx hb dX7_die_39 (by decide) ?_
      refine lv_dup2_11 hx hb dX7_die_40 rfl rfl ?_
      refine va_iald hx hb hK hP 5 0 rfl rfl (show ¬ ((1 : Int32) < 0 ∨ 9 ≤ Int32.toNatClampNeg (1 : Int32)) by decide) dX7_die_41 ?_
      refine lv_iconst (v := (1 : Int32)) hx hb dX7_die_42 (by decide) ?_
      refine lv_iload_n hx hb dX7_die_43 rfl (lv_at hl 1 rfl) ?_
      refine lv_ishl hx hb dX7_die_44 ?_
      refine lv_ixor hx hb dX7_die_45 ?_
      refine va_iast hx hb hK hP hD hS 5 0 rfl rfl (show ¬ ((1 : Int32) < 0 ∨ 9 ≤ Int32.toNatClampNeg (1 : Int32)) by decide) dX7_die_46 (fun H locs hP hD hS => ?_)
      have hP : va_P D vwCl (WD16 cI cC cZ a_M a_M_text a_M_plan a_M_read a_M_readPage a_M_page a_M_trial a_M_book a_M_kept a_M_isKept a_M_seenPoint a_M_seenSum a_M_seenWas (0 : Int32) M_textSize M_place u8 M_seen M_seed M_bestSet M_text M_plan M_read M_readPage (upd M_page (Int32.toNatClampNeg (1 : Int32)) ((M_page (Int32.toNatClampNeg (1 : Int32))) ^^^ ((1 : Int32) <<< (p1 &&& 31)))) M_trial u9 M_kept M_isKept M_seenPoint M_seenSum M_seenWas) H := hP
      have hD : va_D A (WD16 cI cC cZ a_M a_M_text a_M_plan a_M_read a_M_readPage a_M_page a_M_trial a_M_book a_M_kept a_M_isKept a_M_seenPoint a_M_seenSum a_M_seenWas (0 : Int32) M_textSize M_place u8 M_seen M_seed M_bestSet M_text M_plan M_read M_readPage (upd M_page (Int32.toNatClampNeg (1 : Int32)) ((M_page (Int32.toNatClampNeg (1 : Int32))) ^^^ ((1 : Int32) <<< (p1 &&& 31)))) M_trial u9 M_kept M_isKept M_seenPoint M_seenSum M_seenWas) := hD
      refine lv_aload_n hx hb dX7_die_47 rfl (lv_at hl 0 rfl) ?_
      refine va_get (D := D) (ci := 7) (v := .ref a_M_page) (C := RX7) (T := TX7) (N := 19) hx hb hts inlX7 hown hK hP 0 rfl rfl 7 (by decide) (hts _ kw_88) (fun _ h9 => h9) rfl dX7_die_48 ?_
      refine lv_iconst (v := (1 : Int32)) hx hb dX7_die_51 (by decide) ?_
      refine va_iald hx hb hK hP 5 0 rfl rfl (show ¬ ((1 : Int32) < 0 ∨ 9 ≤ Int32.toNatClampNeg (1 : Int32)) by decide) dX7_die_52 ?_
      refine lv_iload_n hx hb dX7_die_53 rfl (lv_at hl 1 rfl) ?_
      refine lv_ishr hx hb dX7_die_54 ?_
      refine lv_iconst (v := (1 : Int32)) hx hb dX7_die_55 (by decide) ?_
      refine lv_iand hx hb dX7_die_56 ?_
      cases h
      exact kret_i C0 hP hD hS rfl dX7_die_57
    · have h := oc_t c6 h
      refine lv_bipush (v := (-3 : Int32)) hx hb dX7_die_28 (by decide) ?_
      cases h
      exact kret_i C0 hP hD hS rfl dX7_die_30
  · have h := oc_f c3 h
    refine lv_iconst (v := (-1 : Int32)) hx hb dX7_die_13 (by decide) ?_
    cases h
    exact kret_i C0 hP hD hS rfl dX7_die_14
abbrev rm_X7_build : Room := { frames := 1, cells := 0, slots := 0, locals := 25 }
noncomputable def f_X7_build (M_thrown : Int32) (M_doings : Int32) (M_plan : Nat → Int32) (M_page : Nat → Int32) (M_book : Nat → Int32) (p1 : Int32) : Option (Int32 × Int32 × Int32 × (Nat → Int32) × (Nat → Int32)) := (f_X7_walls M_plan).bind (fun r2 => (f_X7_in (Int32.toInt64 p1) (0 : Int64) (Int32.toInt64 (r2 - (1 : Int32)))).bind (fun r4 => if r4 = 0 then (some ((-1 : Int32), (0 : Int32), M_doings, M_page, M_book)) else ((f_X7_note M_doings M_page M_book).bind (fun z => un2 z (fun u7 u8 => some (((((upd M_page (Int32.toNatClampNeg (2 : Int32)) ((M_page (Int32.toNatClampNeg (2 : Int32))) ^^^ ((1 : Int32) <<< (p1 &&& 31)))) (Int32.toNatClampNeg (2 : Int32))) >>> (p1 &&& 31)) &&& (1 : Int32)), (0 : Int32), u7, (upd M_page (Int32.toNatClampNeg (2 : Int32)) ((M_page (Int32.toNatClampNeg (2 : Int32))) ^^^ ((1 : Int32) <<< (p1 &&& 31)))), u8))))))
set_option maxHeartbeats 4000000 in
set_option maxRecDepth 100000 in
theorem c_X7_build (l : Launch) (D : va_G) (cI cC cZ : ClassId) (a_M a_M_text a_M_plan a_M_read a_M_readPage a_M_page a_M_trial a_M_book a_M_kept a_M_isKept a_M_seenPoint a_M_seenSum a_M_seenWas : Nat) (sz : Nat) (M_thrown : Int32) (M_textSize : Int32) (M_place : Int32) (M_doings : Int32) (M_seen : Int32) (M_seed : Int64) (M_bestSet : Int32) (M_text : Nat → Int32) (M_plan : Nat → Int32) (M_read : Nat → Int32) (M_readPage : Nat → Int32) (M_page : Nat → Int32) (M_trial : Nat → Int32) (M_book : Nat → Int32) (M_kept : Nat → Int32) (M_isKept : Nat → Int32) (M_seenPoint : Nat → Int32) (M_seenSum : Nat → Int32) (M_seenWas : Nat → Int32) (p1 : Int32) (rr : Int32) (u_M_thrown : Int32) (u_M_doings : Int32) (u_M_page : Nat → Int32) (u_M_book : Nat → Int32) (hf : f_X7_build M_thrown M_doings M_plan M_page M_book p1 = some (rr, u_M_thrown, u_M_doings, u_M_page, u_M_book)) : kMet l yX7_build cX7_build 2 (some .int) rm_X7_build D (kTY cI cC cZ) [.ref a_M, .int p1] (WD16 cI cC cZ a_M a_M_text a_M_plan a_M_read a_M_readPage a_M_page a_M_trial a_M_book a_M_kept a_M_isKept a_M_seenPoint a_M_seenSum a_M_seenWas M_thrown M_textSize M_place M_doings M_seen M_seed M_bestSet M_text M_plan M_read M_readPage M_page M_trial M_book M_kept M_isKept M_seenPoint M_seenSum M_seenWas) sz (kQI D (kTY cI cC cZ) (va_A (WD16 cI cC cZ a_M a_M_text a_M_plan a_M_read a_M_readPage a_M_page a_M_trial a_M_book a_M_kept a_M_isKept a_M_seenPoint a_M_seenSum a_M_seenWas M_thrown M_textSize M_place M_doings M_seen M_seed M_bestSet M_text M_plan M_read M_readPage M_page M_trial M_book M_kept M_isKept M_seenPoint M_seenSum M_seenWas) sz) rr (WD16 cI cC cZ a_M a_M_text a_M_plan a_M_read a_M_readPage a_M_page a_M_trial a_M_book a_M_kept a_M_isKept a_M_seenPoint a_M_seenSum a_M_seenWas u_M_thrown M_textSize M_place u_M_doings M_seen M_seed M_bestSet M_text M_plan M_read M_readPage u_M_page M_trial u_M_book M_kept M_isKept M_seenPoint M_seenSum M_seenWas)) := by
  refine kEnter (lv := [(0, .ref a_M), (1, .int p1)]) (own := RX7) (by decide) rfl (Nat.le_of_ble_eq_true rfl) rfl ?_
  intro p e s m below meth c hsz C0 hP hD hS ls hl
  generalize (va_A (WD16 cI cC cZ a_M a_M_text a_M_plan a_M_read a_M_readPage a_M_page a_M_trial a_M_book a_M_kept a_M_isKept a_M_seenPoint a_M_seenSum a_M_seenWas M_thrown M_textSize M_place M_doings M_seen M_seed M_bestSet M_text M_plan M_read M_readPage M_page M_trial M_book M_kept M_isKept M_seenPoint M_seenSum M_seenWas) sz) = A at C0 hD hS ⊢
  clear hsz hS
  obtain ⟨H, hHs⟩ : ∃ H : Heap, H = s.heap := ⟨_, rfl⟩
  have hS : va_S A s.heap H [] := by rw [hHs]; exact va_S.rf
  rw [← hHs] at hP ⊢
  obtain ⟨hx, hb, hr, hml, hown, hts, hK, hN, hA, hlocks, hF⟩ := id C0
  have h := hf
  unfold f_X7_build at h
  refine lv_aload_n hx hb dX7_build_0 rfl (lv_at hl 0 rfl) ?_
  refine lv_iconst (v := (0 : Int32)) hx hb dX7_build_1 (by decide) ?_
  refine va_put (D := D) (ci := 7) (v := .int (0 : Int32)) (ty := .int) (C := RX7) (T := TX7) (N := 19) hx hb hts inlX7 tyX7 tyX7_ok nmX7 hown hK hP hD hS 0 rfl rfl 0 (by decide) (hts _ kw_109) (fun _ h9 => h9) rfl (by decide +kernel) rfl rfl (Nat.le_of_ble_eq_true rfl) dX7_build_2 (fun H locs hP hD hS => ?_)
  have hP : va_P D vwCl (WD16 cI cC cZ a_M a_M_text a_M_plan a_M_read a_M_readPage a_M_page a_M_trial a_M_book a_M_kept a_M_isKept a_M_seenPoint a_M_seenSum a_M_seenWas (0 : Int32) M_textSize M_place M_doings M_seen M_seed M_bestSet M_text M_plan M_read M_readPage M_page M_trial M_book M_kept M_isKept M_seenPoint M_seenSum M_seenWas) H := hP
  have hD : va_D A (WD16 cI cC cZ a_M a_M_text a_M_plan a_M_read a_M_readPage a_M_page a_M_trial a_M_book a_M_kept a_M_isKept a_M_seenPoint a_M_seenSum a_M_seenWas (0 : Int32) M_textSize M_place M_doings M_seen M_seed M_bestSet M_text M_plan M_read M_readPage M_page M_trial M_book M_kept M_isKept M_seenPoint M_seenSum M_seenWas) := hD
  refine lv_iload_n hx hb dX7_build_5 rfl (lv_at hl 1 rfl) ?_
  refine lv_i2l hx hb dX7_build_6 rfl ?_
  refine lv_lconst (v := (0 : Int64)) hx hb dX7_build_7 (by decide) ?_
  refine lv_aload_n hx hb dX7_build_8 rfl (lv_at hl 0 rfl) ?_
  obtain ⟨r2, hc1, h⟩ := oc_bind h
  refine kro_i (wc := (WD16 cI cC cZ a_M a_M_text a_M_plan a_M_read a_M_readPage a_M_page a_M_trial a_M_book a_M_kept a_M_isKept a_M_seenPoint a_M_seenSum a_M_seenWas (0 : Int32) M_textSize M_place M_doings M_seen M_seed M_bestSet M_text M_plan M_read M_readPage M_page M_trial M_book M_kept M_isKept M_seenPoint M_seenSum M_seenWas)) C0 hP hD hS [0, 1, 2, 3, 4, 5, 6, 7, 8, 9, 10, 11, 12] rfl (kV (n := 0) (As := []) (rest := [.long (0 : Int64), .long (Int32.toInt64 p1)]) (wc := (WD16 cI cC cZ a_M a_M_text a_M_plan a_M_read a_M_readPage a_M_page a_M_trial a_M_book a_M_kept a_M_isKept a_M_seenPoint a_M_seenSum a_M_seenWas (0 : Int32) M_textSize M_place M_doings M_seen M_seed M_bestSet M_text M_plan M_read M_readPage M_page M_trial M_book M_kept M_isKept M_seenPoint M_seenSum M_seenWas)) (C := RX7) C0 hP hD hS [0, 1, 2, 3, 4, 5, 6, 7, 8, 9, 10, 11, 12] rfl (by decide) (c_X7_walls l D cI cC cZ a_M a_M_text a_M_plan a_M_read a_M_readPage a_M_page a_M_trial a_M_book a_M_kept a_M_isKept a_M_seenPoint a_M_seenSum a_M_seenWas H.size (0 : Int32) M_textSize M_place M_doings M_seen M_seed M_bestSet M_text M_plan M_read M_readPage M_page M_trial M_book M_kept M_isKept M_seenPoint M_seenSum M_seenWas  r2 hc1) kw_276 kw_273 kw_274 kw_275 kw_5 (by decide +kernel) (by decide) rfl rfl rfl hl.1 rfl (Nat.le_of_ble_eq_true rfl) ⟨Nat.zero_le _, Nat.zero_le _⟩ dX7_build_9) (fun H locs hP hS => ?_)
  refine lv_iconst (v := (1 : Int32)) hx hb dX7_build_12 (by decide) ?_
  refine lv_isub hx hb dX7_build_13 ?_
  refine lv_i2l hx hb dX7_build_14 rfl ?_
  obtain ⟨r4, hc3, h⟩ := oc_bind h
  refine kro_i (wc := (WD0 cI cC cZ)) C0 hP hD hS [] rfl (kS (n := 3) (As := [.long (Int32.toInt64 p1), .long (0 : Int64), .long (Int32.toInt64 (r2 - (1 : Int32)))]) (rest := []) (wc := (WD0 cI cC cZ)) C0 hP hD hS [] rfl (by decide) (c_X7_in l D cI cC cZ  H.size  (Int32.toInt64 p1) (0 : Int64) (Int32.toInt64 (r2 - (1 : Int32))) r4 hc3) kw_114 kw_112 kw_113 kw_5 (by decide +kernel) (by decide) rfl hl.1 rfl (Nat.le_of_ble_eq_true rfl) ⟨Nat.zero_le _, Nat.zero_le _⟩ dX7_build_15) (fun H locs hP hS => ?_)
  refine lv_if_ne (tgt := 23) hx hb dX7_build_18 (by decide) (fun c5 => ?_) (fun c5 => ?_)
  · have h := oc_f c5 h
    refine lv_aload_n hx hb dX7_build_23 rfl (lv_at hl 0 rfl) ?_
    obtain ⟨u7, u8, hc6, h⟩ := oc_b2 h
    refine kgo_v (wc := (WD16 cI cC cZ a_M a_M_text a_M_plan a_M_read a_M_readPage a_M_page a_M_trial a_M_book a_M_kept a_M_isKept a_M_seenPoint a_M_seenSum a_M_seenWas (0 : Int32) M_textSize M_place M_doings M_seen M_seed M_bestSet M_text M_plan M_read M_readPage M_page M_trial M_book M_kept M_isKept M_seenPoint M_seenSum M_seenWas)) (wc' := (WD16 cI cC cZ a_M a_M_text a_M_plan a_M_read a_M_readPage a_M_page a_M_trial a_M_book a_M_kept a_M_isKept a_M_seenPoint a_M_seenSum a_M_seenWas (0 : Int32) M_textSize M_place u7 M_seen M_seed M_bestSet M_text M_plan M_read M_readPage M_page M_trial u8 M_kept M_isKept M_seenPoint M_seenSum M_seenWas)) (ws' := (WD16 cI cC cZ a_M a_M_text a_M_plan a_M_read a_M_readPage a_M_page a_M_trial a_M_book a_M_kept a_M_isKept a_M_seenPoint a_M_seenSum a_M_seenWas (0 : Int32) M_textSize M_place u7 M_seen M_seed M_bestSet M_text M_plan M_read M_readPage M_page M_trial u8 M_kept M_isKept M_seenPoint M_seenSum M_seenWas)) C0 hP hD hS [0, 1, 2, 3, 4, 5, 6, 7, 8, 9, 10, 11, 12] [] [0, 1, 2, 3, 4, 5, 6, 7, 8, 9, 10, 11, 12] [] rfl rfl (by decide) (by decide) rfl (by decide) (kV (n := 0) (As := []) (rest := []) (wc := (WD16 cI cC cZ a_M a_M_text a_M_plan a_M_read a_M_readPage a_M_page a_M_trial a_M_book a_M_kept a_M_isKept a_M_seenPoint a_M_seenSum a_M_seenWas (0 : Int32) M_textSize M_place M_doings M_seen M_seed M_bestSet M_text M_plan M_read M_readPage M_page M_trial M_book M_kept M_isKept M_seenPoint M_seenSum M_seenWas)) (C := RX7) C0 hP hD hS [0, 1, 2, 3, 4, 5, 6, 7, 8, 9, 10, 11, 12] rfl (by decide) (c_X7_note l D cI cC cZ a_M a_M_text a_M_plan a_M_read a_M_readPage a_M_page a_M_trial a_M_book a_M_kept a_M_isKept a_M_seenPoint a_M_seenSum a_M_seenWas H.size (0 : Int32) M_textSize M_place M_doings M_seen M_seed M_bestSet M_text M_plan M_read M_readPage M_page M_trial M_book M_kept M_isKept M_seenPoint M_seenSum M_seenWas  u7 u8 hc6) kw_458 kw_455 kw_456 kw_457 kw_5 (by decide +kernel) (by decide) rfl rfl rfl hl.1 rfl (Nat.le_of_ble_eq_true rfl) ⟨Nat.zero_le _, Nat.zero_le _⟩ dX7_build_24) (fun H locs hP hD hS => ?_)
    refine lv_aload_n hx hb dX7_build_27 rfl (lv_at hl 0 rfl) ?_
    refine va_get (D := D) (ci := 7) (v := .ref a_M_page) (C := RX7) (T := TX7) (N := 19) hx hb hts inlX7 hown hK hP 0 rfl rfl 7 (by decide) (hts _ kw_88) (fun _ h9 => h9) rfl dX7_build_28 ?_
    refine lv_iconst (v := (2 : Int32)) hx hb dX7_build_31 (by decide) ?_
    refine lv_dup2_11 hx hb dX7_build_32 rfl rfl ?_
    refine va_iald hx hb hK hP 5 0 rfl rfl (show ¬ ((2 : Int32) < 0 ∨ 9 ≤ Int32.toNatClampNeg (2 : Int32)) by decide) dX7_build_33 ?_
    refine lv_iconst (v := (1 : Int32)) hx hb dX7_build_34 (by decide) ?_
    refine lv_iload_n hx hb dX7_build_35 rfl (lv_at hl 1 rfl) ?_
    refine lv_ishl hx hb dX7_build_36 ?_
    refine lv_ixor hx hb dX7_build_37 ?_
    refine va_iast hx hb hK hP hD hS 5 0 rfl rfl (show ¬ ((2 : Int32) < 0 ∨ 9 ≤ Int32.toNatClampNeg (2 : Int32)) by decide) dX7_build_38 (fun H locs hP hD hS => ?_)
    have hP : va_P D vwCl (WD16 cI cC cZ a_M a_M_text a_M_plan a_M_read a_M_readPage a_M_page a_M_trial a_M_book a_M_kept a_M_isKept a_M_seenPoint a_M_seenSum a_M_seenWas (0 : Int32) M_textSize M_place u7 M_seen M_seed M_bestSet M_text M_plan M_read M_readPage (upd M_page (Int32.toNatClampNeg (2 : Int32)) ((M_page (Int32.toNatClampNeg (2 : Int32))) ^^^ ((1 : Int32) <<< (p1 &&& 31)))) M_trial u8 M_kept M_isKept M_seenPoint M_seenSum M_seenWas) H := hP
    have hD : va_D A (WD16 cI cC cZ a_M a_M_text a_M_plan a_M_read a_M_readPage a_M_page a_M_trial a_M_book a_M_kept a_M_isKept a_M_seenPoint a_M_seenSum a_M_seenWas (0 : Int32) M_textSize M_place u7 M_seen M_seed M_bestSet M_text M_plan M_read M_readPage (upd M_page (Int32.toNatClampNeg (2 : Int32)) ((M_page (Int32.toNatClampNeg (2 : Int32))) ^^^ ((1 : Int32) <<< (p1 &&& 31)))) M_trial u8 M_kept M_isKept M_seenPoint M_seenSum M_seenWas) := hD
    refine lv_aload_n hx hb dX7_build_39 rfl (lv_at hl 0 rfl) ?_
    refine va_get (D := D) (ci := 7) (v := .ref a_M_page) (C := RX7) (T := TX7) (N := 19) hx hb hts inlX7 hown hK hP 0 rfl rfl 7 (by decide) (hts _ kw_88) (fun _ h9 => h9) rfl dX7_build_40 ?_
    refine lv_iconst (v := (2 : Int32)) hx hb dX7_build_43 (by decide) ?_
    refine va_iald hx hb hK hP 5 0 rfl rfl (show ¬ ((2 : Int32) < 0 ∨ 9 ≤ Int32.toNatClampNeg (2 : Int32)) by decide) dX7_build_44 ?_
    refine lv_iload_n hx hb dX7_build_45 rfl (lv_at hl 1 rfl) ?_
    refine lv_ishr hx hb dX7_build_46 ?_
    refine lv_iconst (v := (1 : Int32)) hx hb dX7_build_47 (by decide) ?_
    refine lv_iand hx hb dX7_build_48 ?_
    cases h
    exact kret_i C0 hP hD hS rfl dX7_build_49
  · have h := oc_t c5 h
    refine lv_iconst (v := (-1 : Int32)) hx hb dX7_build_21 (by decide) ?_
    cases h
    exact kret_i C0 hP hD hS rfl dX7_build_22
abbrev rm_X7_want : Room := { frames := 2, cells := 0, slots := 0, locals := 46 }
noncomputable def f_X7_want (M_thrown : Int32) (M_doings : Int32) (M_plan : Nat → Int32) (M_page : Nat → Int32) (M_book : Nat → Int32) (p1 : Int32) (p2 : Int32) : Option (Int32 × Int32 × Int32 × (Nat → Int32) × (Nat → Int32)) := (f_X7_noPoint M_plan p1).bind (fun r2 => if r2 = 0 then ((f_X7_in (Int32.toInt64 p2) (0 : Int64) (99 : Int64)).bind (fun r5 => if r5 = 0 then (some ((-2 : Int32), (0 : Int32), M_doings, M_page, M_book)) else ((f_X7_note M_doings M_page M_book).bind (fun z => un2 z (fun u8 u9 => if (((3 : Int32) + p1) < 0 ∨ 9 ≤ Int32.toNatClampNeg ((3 : Int32) + p1)) then none else (nm_ (M_page (Int32.toNatClampNeg ((3 : Int32) + p1))) (fun t11 => if (((3 : Int32) + p1) < 0 ∨ 9 ≤ Int32.toNatClampNeg ((3 : Int32) + p1)) then none else (some (t11, (0 : Int32), u8, (upd M_page (Int32.toNatClampNeg ((3 : Int32) + p1)) p2), u9))))))))) else (some ((-1 : Int32), (0 : Int32), M_doings, M_page, M_book)))
set_option maxHeartbeats 4000000 in
set_option maxRecDepth 100000 in
theorem c_X7_want (l : Launch) (D : va_G) (cI cC cZ : ClassId) (a_M a_M_text a_M_plan a_M_read a_M_readPage a_M_page a_M_trial a_M_book a_M_kept a_M_isKept a_M_seenPoint a_M_seenSum a_M_seenWas : Nat) (sz : Nat) (M_thrown : Int32) (M_textSize : Int32) (M_place : Int32) (M_doings : Int32) (M_seen : Int32) (M_seed : Int64) (M_bestSet : Int32) (M_text : Nat → Int32) (M_plan : Nat → Int32) (M_read : Nat → Int32) (M_readPage : Nat → Int32) (M_page : Nat → Int32) (M_trial : Nat → Int32) (M_book : Nat → Int32) (M_kept : Nat → Int32) (M_isKept : Nat → Int32) (M_seenPoint : Nat → Int32) (M_seenSum : Nat → Int32) (M_seenWas : Nat → Int32) (p1 : Int32) (p2 : Int32) (rr : Int32) (u_M_thrown : Int32) (u_M_doings : Int32) (u_M_page : Nat → Int32) (u_M_book : Nat → Int32) (hf : f_X7_want M_thrown M_doings M_plan M_page M_book p1 p2 = some (rr, u_M_thrown, u_M_doings, u_M_page, u_M_book)) : kMet l yX7_want cX7_want 4 (some .int) rm_X7_want D (kTY cI cC cZ) [.ref a_M, .int p1, .int p2] (WD16 cI cC cZ a_M a_M_text a_M_plan a_M_read a_M_readPage a_M_page a_M_trial a_M_book a_M_kept a_M_isKept a_M_seenPoint a_M_seenSum a_M_seenWas M_thrown M_textSize M_place M_doings M_seen M_seed M_bestSet M_text M_plan M_read M_readPage M_page M_trial M_book M_kept M_isKept M_seenPoint M_seenSum M_seenWas) sz (kQI D (kTY cI cC cZ) (va_A (WD16 cI cC cZ a_M a_M_text a_M_plan a_M_read a_M_readPage a_M_page a_M_trial a_M_book a_M_kept a_M_isKept a_M_seenPoint a_M_seenSum a_M_seenWas M_thrown M_textSize M_place M_doings M_seen M_seed M_bestSet M_text M_plan M_read M_readPage M_page M_trial M_book M_kept M_isKept M_seenPoint M_seenSum M_seenWas) sz) rr (WD16 cI cC cZ a_M a_M_text a_M_plan a_M_read a_M_readPage a_M_page a_M_trial a_M_book a_M_kept a_M_isKept a_M_seenPoint a_M_seenSum a_M_seenWas u_M_thrown M_textSize M_place u_M_doings M_seen M_seed M_bestSet M_text M_plan M_read M_readPage u_M_page M_trial u_M_book M_kept M_isKept M_seenPoint M_seenSum M_seenWas)) := by
  refine kEnter (lv := [(0, .ref a_M), (1, .int p1), (2, .int p2)]) (own := RX7) (by decide) rfl (Nat.le_of_ble_eq_true rfl) rfl ?_
  intro p e s m below meth c hsz C0 hP hD hS ls hl
  generalize (va_A (WD16 cI cC cZ a_M a_M_text a_M_plan a_M_read a_M_readPage a_M_page a_M_trial a_M_book a_M_kept a_M_isKept a_M_seenPoint a_M_seenSum a_M_seenWas M_thrown M_textSize M_place M_doings M_seen M_seed M_bestSet M_text M_plan M_read M_readPage M_page M_trial M_book M_kept M_isKept M_seenPoint M_seenSum M_seenWas) sz) = A at C0 hD hS ⊢
  clear hsz hS
  obtain ⟨H, hHs⟩ : ∃ H : Heap, H = s.heap := ⟨_, rfl⟩
  have hS : va_S A s.heap H [] := by rw [hHs]; exact va_S.rf
  rw [← hHs] at hP ⊢
  obtain ⟨hx, hb, hr, hml, hown, hts, hK, hN, hA, hlocks, hF⟩ := id C0
  have h := hf
  unfold f_X7_want at h
  refine lv_aload_n hx hb dX7_want_0 rfl (lv_at hl 0 rfl) ?_
  refine lv_iconst (v := (0 : Int32)) hx hb dX7_want_1 (by decide) ?_
  refine va_put (D := D) (ci := 7) (v := .int (0 : Int32)) (ty := .int) (C := RX7) (T := TX7) (N := 19) hx hb hts inlX7 tyX7 tyX7_ok nmX7 hown hK hP hD hS 0 rfl rfl 0 (by decide) (hts _ kw_109) (fun _ h9 => h9) rfl (by decide +kernel) rfl rfl (Nat.le_of_ble_eq_true rfl) dX7_want_2 (fun H locs hP hD hS => ?_)
  have hP : va_P D vwCl (WD16 cI cC cZ a_M a_M_text a_M_plan a_M_read a_M_readPage a_M_page a_M_trial a_M_book a_M_kept a_M_isKept a_M_seenPoint a_M_seenSum a_M_seenWas (0 : Int32) M_textSize M_place M_doings M_seen M_seed M_bestSet M_text M_plan M_read M_readPage M_page M_trial M_book M_kept M_isKept M_seenPoint M_seenSum M_seenWas) H := hP
  have hD : va_D A (WD16 cI cC cZ a_M a_M_text a_M_plan a_M_read a_M_readPage a_M_page a_M_trial a_M_book a_M_kept a_M_isKept a_M_seenPoint a_M_seenSum a_M_seenWas (0 : Int32) M_textSize M_place M_doings M_seen M_seed M_bestSet M_text M_plan M_read M_readPage M_page M_trial M_book M_kept M_isKept M_seenPoint M_seenSum M_seenWas) := hD
  refine lv_aload_n hx hb dX7_want_5 rfl (lv_at hl 0 rfl) ?_
  refine lv_iload_n hx hb dX7_want_6 rfl (lv_at hl 1 rfl) ?_
  obtain ⟨r2, hc1, h⟩ := oc_bind h
  refine kro_i (wc := (WD16 cI cC cZ a_M a_M_text a_M_plan a_M_read a_M_readPage a_M_page a_M_trial a_M_book a_M_kept a_M_isKept a_M_seenPoint a_M_seenSum a_M_seenWas (0 : Int32) M_textSize M_place M_doings M_seen M_seed M_bestSet M_text M_plan M_read M_readPage M_page M_trial M_book M_kept M_isKept M_seenPoint M_seenSum M_seenWas)) C0 hP hD hS [0, 1, 2, 3, 4, 5, 6, 7, 8, 9, 10, 11, 12] rfl (kV (n := 1) (As := [.int p1]) (rest := []) (wc := (WD16 cI cC cZ a_M a_M_text a_M_plan a_M_read a_M_readPage a_M_page a_M_trial a_M_book a_M_kept a_M_isKept a_M_seenPoint a_M_seenSum a_M_seenWas (0 : Int32) M_textSize M_place M_doings M_seen M_seed M_bestSet M_text M_plan M_read M_readPage M_page M_trial M_book M_kept M_isKept M_seenPoint M_seenSum M_seenWas)) (C := RX7) C0 hP hD hS [0, 1, 2, 3, 4, 5, 6, 7, 8, 9, 10, 11, 12] rfl (by decide) (c_X7_noPoint l D cI cC cZ a_M a_M_text a_M_plan a_M_read a_M_readPage a_M_page a_M_trial a_M_book a_M_kept a_M_isKept a_M_seenPoint a_M_seenSum a_M_seenWas H.size (0 : Int32) M_textSize M_place M_doings M_seen M_seed M_bestSet M_text M_plan M_read M_readPage M_page M_trial M_book M_kept M_isKept M_seenPoint M_seenSum M_seenWas p1 r2 hc1) kw_357 kw_354 kw_355 kw_356 kw_5 (by decide +kernel) (by decide) rfl rfl rfl hl.1 rfl (Nat.le_of_ble_eq_true rfl) ⟨Nat.zero_le _, Nat.zero_le _⟩ dX7_want_7) (fun H locs hP hS => ?_)
  refine lv_if_eq (tgt := 15) hx hb dX7_want_10 (by decide) (fun c3 => ?_) (fun c3 => ?_)
  · have h := oc_t c3 h
    refine lv_iload_n hx hb dX7_want_15 rfl (lv_at hl 2 rfl) ?_
    refine lv_i2l hx hb dX7_want_16 rfl ?_
    refine lv_lconst (v := (0 : Int64)) hx hb dX7_want_17 (by decide) ?_
    refine lv_ldc2 (v := (99 : Int64)) hx hb hown (hts _ kw_501) dX7_want_18 ?_
    obtain ⟨r5, hc4, h⟩ := oc_bind h
    refine kro_i (wc := (WD0 cI cC cZ)) C0 hP hD hS [] rfl (kS (n := 3) (As := [.long (Int32.toInt64 p2), .long (0 : Int64), .long (99 : Int64)]) (rest := []) (wc := (WD0 cI cC cZ)) C0 hP hD hS [] rfl (by decide) (c_X7_in l D cI cC cZ  H.size  (Int32.toInt64 p2) (0 : Int64) (99 : Int64) r5 hc4) kw_114 kw_112 kw_113 kw_5 (by decide +kernel) (by decide) rfl hl.1 rfl (Nat.le_of_ble_eq_true rfl) ⟨Nat.zero_le _, Nat.zero_le _⟩ dX7_want_21) (fun H locs hP hS => ?_)
    refine lv_if_ne (tgt := 30) hx hb dX7_want_24 (by decide) (fun c6 => ?_) (fun c6 => ?_)
    · have h := oc_f c6 h
      refine lv_aload_n hx hb dX7_want_30 rfl (lv_at hl 0 rfl) ?_
      obtain ⟨u8, u9, hc7, h⟩ := oc_b2 h
      refine kgo_v (wc := (WD16 cI cC cZ a_M a_M_text a_M_plan a_M_read a_M_readPage a_M_page a_M_trial a_M_book a_M_kept a_M_isKept a_M_seenPoint a_M_seenSum a_M_seenWas (0 : Int32) M_textSize M_place M_doings M_seen M_seed M_bestSet M_text M_plan M_read M_readPage M_page M_trial M_book M_kept M_isKept M_seenPoint M_seenSum M_seenWas)) (wc' := (WD16 cI cC cZ a_M a_M_text a_M_plan a_M_read a_M_readPage a_M_page a_M_trial a_M_book a_M_kept a_M_isKept a_M_seenPoint a_M_seenSum a_M_seenWas (0 : Int32) M_textSize M_place u8 M_seen M_seed M_bestSet M_text M_plan M_read M_readPage M_page M_trial u9 M_kept M_isKept M_seenPoint M_seenSum M_seenWas)) (ws' := (WD16 cI cC cZ a_M a_M_text a_M_plan a_M_read a_M_readPage a_M_page a_M_trial a_M_book a_M_kept a_M_isKept a_M_seenPoint a_M_seenSum a_M_seenWas (0 : Int32) M_textSize M_place u8 M_seen M_seed M_bestSet M_text M_plan M_read M_readPage M_page M_trial u9 M_kept M_isKept M_seenPoint M_seenSum M_seenWas)) C0 hP hD hS [0, 1, 2, 3, 4, 5, 6, 7, 8, 9, 10, 11, 12] [] [0, 1, 2, 3, 4, 5, 6, 7, 8, 9, 10, 11, 12] [] rfl rfl (by decide) (by decide) rfl (by decide) (kV (n := 0) (As := []) (rest := []) (wc := (WD16 cI cC cZ a_M a_M_text a_M_plan a_M_read a_M_readPage a_M_page a_M_trial a_M_book a_M_kept a_M_isKept a_M_seenPoint a_M_seenSum a_M_seenWas (0 : Int32) M_textSize M_place M_doings M_seen M_seed M_bestSet M_text M_plan M_read M_readPage M_page M_trial M_book M_kept M_isKept M_seenPoint M_seenSum M_seenWas)) (C := RX7) C0 hP hD hS [0, 1, 2, 3, 4, 5, 6, 7, 8, 9, 10, 11, 12] rfl (by decide) (c_X7_note l D cI cC cZ a_M a_M_text a_M_plan a_M_read a_M_readPage a_M_page a_M_trial a_M_book a_M_kept a_M_isKept a_M_seenPoint a_M_seenSum a_M_seenWas H.size (0 : Int32) M_textSize M_place M_doings M_seen M_seed M_bestSet M_text M_plan M_read M_readPage M_page M_trial M_book M_kept M_isKept M_seenPoint M_seenSum M_seenWas  u8 u9 hc7) kw_458 kw_455 kw_456 kw_457 kw_5 (by decide +kernel) (by decide) rfl rfl rfl hl.1 rfl (Nat.le_of_ble_eq_true rfl) ⟨Nat.zero_le _, Nat.zero_le _⟩ dX7_want_31) (fun H locs hP hD hS => ?_)
      refine lv_aload_n hx hb dX7_want_34 rfl (lv_at hl 0 rfl) ?_
      refine va_get (D := D) (ci := 7) (v := .ref a_M_page) (C := RX7) (T := TX7) (N := 19) hx hb hts inlX7 hown hK hP 0 rfl rfl 7 (by decide) (hts _ kw_88) (fun _ h9 => h9) rfl dX7_want_35 ?_
      refine lv_iconst (v := (3 : Int32)) hx hb dX7_want_38 (by decide) ?_
      refine lv_iload_n hx hb dX7_want_39 rfl (lv_at hl 1 rfl) ?_
      refine lv_iadd hx hb dX7_want_40 ?_
      obtain ⟨hb10, h⟩ := oc_else h
      refine va_iald hx hb hK hP 5 0 rfl rfl hb10 dX7_want_41 ?_
      refine lv_topi (fun t11 e_t11 => ?_)
      have h := oc_nm e_t11 h
      refine lv_istore_n (lv' := [(3, .int t11), (0, .ref a_M), (1, .int p1), (2, .int p2)]) hx hb dX7_want_42 rfl hl (by decide) rfl (fun ls hl => ?_)
      refine lv_aload_n hx hb dX7_want_43 rfl (lv_at hl 1 rfl) ?_
      refine va_get (D := D) (ci := 7) (v := .ref a_M_page) (C := RX7) (T := TX7) (N := 19) hx hb hts inlX7 hown hK hP 0 rfl rfl 7 (by decide) (hts _ kw_88) (fun _ h9 => h9) rfl dX7_want_44 ?_
      refine lv_iconst (v := (3 : Int32)) hx hb dX7_want_47 (by decide) ?_
      refine lv_iload_n hx hb dX7_want_48 rfl (lv_at hl 2 rfl) ?_
      refine lv_iadd hx hb dX7_want_49 ?_
      refine lv_iload_n hx hb dX7_want_50 rfl (lv_at hl 3 rfl) ?_
      obtain ⟨hb12, h⟩ := oc_else h
      refine va_iast hx hb hK hP hD hS 5 0 rfl rfl hb12 dX7_want_51 (fun H locs hP hD hS => ?_)
      have hP : va_P D vwCl (WD16 cI cC cZ a_M a_M_text a_M_plan a_M_read a_M_readPage a_M_page a_M_trial a_M_book a_M_kept a_M_isKept a_M_seenPoint a_M_seenSum a_M_seenWas (0 : Int32) M_textSize M_place u8 M_seen M_seed M_bestSet M_text M_plan M_read M_readPage (upd M_page (Int32.toNatClampNeg ((3 : Int32) + p1)) p2) M_trial u9 M_kept M_isKept M_seenPoint M_seenSum M_seenWas) H := hP
      have hD : va_D A (WD16 cI cC cZ a_M a_M_text a_M_plan a_M_read a_M_readPage a_M_page a_M_trial a_M_book a_M_kept a_M_isKept a_M_seenPoint a_M_seenSum a_M_seenWas (0 : Int32) M_textSize M_place u8 M_seen M_seed M_bestSet M_text M_plan M_read M_readPage (upd M_page (Int32.toNatClampNeg ((3 : Int32) + p1)) p2) M_trial u9 M_kept M_isKept M_seenPoint M_seenSum M_seenWas) := hD
      refine lv_iload_n hx hb dX7_want_52 rfl (lv_at hl 0 rfl) ?_
      cases h
      exact kret_i C0 hP hD hS rfl dX7_want_53
    · have h := oc_t c6 h
      refine lv_bipush (v := (-2 : Int32)) hx hb dX7_want_27 (by decide) ?_
      cases h
      exact kret_i C0 hP hD hS rfl dX7_want_29
  · have h := oc_f c3 h
    refine lv_iconst (v := (-1 : Int32)) hx hb dX7_want_13 (by decide) ?_
    cases h
    exact kret_i C0 hP hD hS rfl dX7_want_14
