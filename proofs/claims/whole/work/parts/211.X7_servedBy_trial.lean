abbrev rm_X7_servedBy_trial : Room := { frames := 7, cells := 0, slots := 0, locals := 181 }
noncomputable def bk_X7_servedBy_trial_6 (k6 : Int32 → Int32 → Option (Int32)) (M_plan : Nat → Int32) (M_trial : Nat → Int32) (p2 : Int32) (p3 : Int32) (p4 : Int32) (p5 : Int32) : Option (Int32) := (f_X7_points M_plan).bind (fun r2 => if r2 ≤ p5 then (some p4) else ((f_X7_sumBy M_plan p5 p2 p3).bind (fun r5 => if (((3 : Int32) + p5) < 0 ∨ 9 ≤ Int32.toNatClampNeg ((3 : Int32) + p5)) then none else (if r5 < (M_trial (Int32.toNatClampNeg ((3 : Int32) + p5))) then (nm_ (p4 ||| (0 : Int32)) (fun t8 => nm_ (p5 + (1 : Int32)) (fun t9 => k6 t8 t9))) else (nm_ (p4 ||| ((1 : Int32) <<< (p5 &&& 31))) (fun t10 => nm_ (p5 + (1 : Int32)) (fun t11 => k6 t10 t11)))))))
set_option maxHeartbeats 4000000 in
set_option maxRecDepth 100000 in
theorem wk_X7_servedBy_trial_6 {p : Program} {l : Launch} {e : Env} {s : State} {m : MethodId} {args : Array Value} {below : List Frame} {meth : Method} {c : Code} {D : va_G} {cI cC cZ : ClassId} {A : Nat → Prop} {a_M a_M_text a_M_plan a_M_read a_M_readPage a_M_page a_M_trial a_M_book a_M_kept a_M_isKept a_M_seenPoint a_M_seenSum a_M_seenWas : Nat} {M_thrown : Int32} {M_textSize : Int32} {M_place : Int32} {M_doings : Int32} {M_seen : Int32} {M_seed : Int64} {M_bestSet : Int32} {M_text : Nat → Int32} {M_plan : Nat → Int32} {M_read : Nat → Int32} {M_readPage : Nat → Int32} {M_page : Nat → Int32} {M_trial : Nat → Int32} {M_book : Nat → Int32} {M_kept : Nat → Int32} {M_isKept : Nat → Int32} {M_seenPoint : Nat → Int32} {M_seenSum : Nat → Int32} {M_seenWas : Nat → Int32} {p2 : Int32} {p3 : Int32} {p4 : Int32} {p5 : Int32} {k6 : Int32 → Int32 → Option (Int32)} {rr : Int32} (C0 : kC p s m args meth c D (kTY cI cC cZ) cX7_servedBy (some .int) 6 RX7 A) (hk6 : ∀ (p4_k : Int32) (p5_k : Int32), k6 p4_k p5_k = some rr → ∀ (H : Heap) (locs : List Loc), va_P D vwCl (WD16 cI cC cZ a_M a_M_text a_M_plan a_M_read a_M_readPage a_M_page a_M_trial a_M_book a_M_kept a_M_isKept a_M_seenPoint a_M_seenSum a_M_seenWas M_thrown M_textSize M_place M_doings M_seen M_seed M_bestSet M_text M_plan M_read M_readPage M_page M_trial M_book M_kept M_isKept M_seenPoint M_seenSum M_seenWas) H → va_D A (WD16 cI cC cZ a_M a_M_text a_M_plan a_M_read a_M_readPage a_M_page a_M_trial a_M_book a_M_kept a_M_isKept a_M_seenPoint a_M_seenSum a_M_seenWas M_thrown M_textSize M_place M_doings M_seen M_seed M_bestSet M_text M_plan M_read M_readPage M_page M_trial M_book M_kept M_isKept M_seenPoint M_seenSum M_seenWas) → va_S A s.heap H locs → ∀ ls : Array Slot, lv_has ls 6 [(0, .ref a_M), (1, .ref a_M_trial), (2, .int p2), (3, .int p3), (4, .int p4_k), (5, .int p5_k)] → W p l e rm_X7_servedBy_trial s m args below meth c H locs 0 0 (MQ below (kQI D (kTY cI cC cZ) A rr (WD16 cI cC cZ a_M a_M_text a_M_plan a_M_read a_M_readPage a_M_page a_M_trial a_M_book a_M_kept a_M_isKept a_M_seenPoint a_M_seenSum a_M_seenWas M_thrown M_textSize M_place M_doings M_seen M_seed M_bestSet M_text M_plan M_read M_readPage M_page M_trial M_book M_kept M_isKept M_seenPoint M_seenSum M_seenWas)) args s 0 0 A) (F0 m 6 ls [])) (h : bk_X7_servedBy_trial_6 k6 M_plan M_trial p2 p3 p4 p5 = some rr) {H : Heap} {locs : List Loc} (hP : va_P D vwCl (WD16 cI cC cZ a_M a_M_text a_M_plan a_M_read a_M_readPage a_M_page a_M_trial a_M_book a_M_kept a_M_isKept a_M_seenPoint a_M_seenSum a_M_seenWas M_thrown M_textSize M_place M_doings M_seen M_seed M_bestSet M_text M_plan M_read M_readPage M_page M_trial M_book M_kept M_isKept M_seenPoint M_seenSum M_seenWas) H) (hD : va_D A (WD16 cI cC cZ a_M a_M_text a_M_plan a_M_read a_M_readPage a_M_page a_M_trial a_M_book a_M_kept a_M_isKept a_M_seenPoint a_M_seenSum a_M_seenWas M_thrown M_textSize M_place M_doings M_seen M_seed M_bestSet M_text M_plan M_read M_readPage M_page M_trial M_book M_kept M_isKept M_seenPoint M_seenSum M_seenWas)) (hS : va_S A s.heap H locs) {ls : Array Slot} (hl : lv_has ls 6 [(0, .ref a_M), (1, .ref a_M_trial), (2, .int p2), (3, .int p3), (4, .int p4), (5, .int p5)]) : W p l e rm_X7_servedBy_trial s m args below meth c H locs 0 0 (MQ below (kQI D (kTY cI cC cZ) A rr (WD16 cI cC cZ a_M a_M_text a_M_plan a_M_read a_M_readPage a_M_page a_M_trial a_M_book a_M_kept a_M_isKept a_M_seenPoint a_M_seenSum a_M_seenWas M_thrown M_textSize M_place M_doings M_seen M_seed M_bestSet M_text M_plan M_read M_readPage M_page M_trial M_book M_kept M_isKept M_seenPoint M_seenSum M_seenWas)) args s 0 0 A) (F0 m 6 ls []) := by
  obtain ⟨hx, hb, hr, hml, hown, hts, hK, hN, hA, hlocks, hF⟩ := id C0
  unfold bk_X7_servedBy_trial_6 at h
  refine lv_iload hx hb dX7_servedBy_6 (lv_at hl 5 rfl) ?_
  refine lv_aload_n hx hb dX7_servedBy_8 rfl (lv_at hl 0 rfl) ?_
  obtain ⟨r2, hc1, h⟩ := oc_bind h
  refine kro_i (wc := (WD16 cI cC cZ a_M a_M_text a_M_plan a_M_read a_M_readPage a_M_page a_M_trial a_M_book a_M_kept a_M_isKept a_M_seenPoint a_M_seenSum a_M_seenWas M_thrown M_textSize M_place M_doings M_seen M_seed M_bestSet M_text M_plan M_read M_readPage M_page M_trial M_book M_kept M_isKept M_seenPoint M_seenSum M_seenWas)) C0 hP hD hS [0, 1, 2, 3, 4, 5, 6, 7, 8, 9, 10, 11, 12] rfl (kV (n := 0) (As := []) (rest := [.int p5]) (wc := (WD16 cI cC cZ a_M a_M_text a_M_plan a_M_read a_M_readPage a_M_page a_M_trial a_M_book a_M_kept a_M_isKept a_M_seenPoint a_M_seenSum a_M_seenWas M_thrown M_textSize M_place M_doings M_seen M_seed M_bestSet M_text M_plan M_read M_readPage M_page M_trial M_book M_kept M_isKept M_seenPoint M_seenSum M_seenWas)) (C := RX7) C0 hP hD hS [0, 1, 2, 3, 4, 5, 6, 7, 8, 9, 10, 11, 12] rfl (by decide) (c_X7_points l D cI cC cZ a_M a_M_text a_M_plan a_M_read a_M_readPage a_M_page a_M_trial a_M_book a_M_kept a_M_isKept a_M_seenPoint a_M_seenSum a_M_seenWas H.size M_thrown M_textSize M_place M_doings M_seen M_seed M_bestSet M_text M_plan M_read M_readPage M_page M_trial M_book M_kept M_isKept M_seenPoint M_seenSum M_seenWas  r2 hc1) kw_361 kw_358 kw_359 kw_360 kw_5 (by decide +kernel) (by decide) rfl rfl rfl hl.1 rfl (Nat.le_of_ble_eq_true rfl) ⟨Nat.zero_le _, Nat.zero_le _⟩ dX7_servedBy_9) (fun H locs hP hS => ?_)
  refine lv_icmp_ge (tgt := 51) hx hb dX7_servedBy_12 (by decide) (fun c3 => ?_) (fun c3 => ?_)
  · have h := oc_t c3 h
    refine lv_iload hx hb dX7_servedBy_51 (lv_at hl 4 rfl) ?_
    cases h
    exact kret_i C0 hP hD hS rfl dX7_servedBy_53
  · have h := oc_f c3 h
    refine lv_iload hx hb dX7_servedBy_15 (lv_at hl 4 rfl) ?_
    refine lv_aload_n hx hb dX7_servedBy_17 rfl (lv_at hl 0 rfl) ?_
    refine lv_iload hx hb dX7_servedBy_18 (lv_at hl 5 rfl) ?_
    refine lv_iload_n hx hb dX7_servedBy_20 rfl (lv_at hl 2 rfl) ?_
    refine lv_iload_n hx hb dX7_servedBy_21 rfl (lv_at hl 3 rfl) ?_
    obtain ⟨r5, hc4, h⟩ := oc_bind h
    refine kro_i (wc := (WD16 cI cC cZ a_M a_M_text a_M_plan a_M_read a_M_readPage a_M_page a_M_trial a_M_book a_M_kept a_M_isKept a_M_seenPoint a_M_seenSum a_M_seenWas M_thrown M_textSize M_place M_doings M_seen M_seed M_bestSet M_text M_plan M_read M_readPage M_page M_trial M_book M_kept M_isKept M_seenPoint M_seenSum M_seenWas)) C0 hP hD hS [0, 1, 2, 3, 4, 5, 6, 7, 8, 9, 10, 11, 12] rfl (kV (n := 3) (As := [.int p5, .int p2, .int p3]) (rest := [.int p4]) (wc := (WD16 cI cC cZ a_M a_M_text a_M_plan a_M_read a_M_readPage a_M_page a_M_trial a_M_book a_M_kept a_M_isKept a_M_seenPoint a_M_seenSum a_M_seenWas M_thrown M_textSize M_place M_doings M_seen M_seed M_bestSet M_text M_plan M_read M_readPage M_page M_trial M_book M_kept M_isKept M_seenPoint M_seenSum M_seenWas)) (C := RX7) C0 hP hD hS [0, 1, 2, 3, 4, 5, 6, 7, 8, 9, 10, 11, 12] rfl (by decide) (c_X7_sumBy l D cI cC cZ a_M a_M_text a_M_plan a_M_read a_M_readPage a_M_page a_M_trial a_M_book a_M_kept a_M_isKept a_M_seenPoint a_M_seenSum a_M_seenWas H.size M_thrown M_textSize M_place M_doings M_seen M_seed M_bestSet M_text M_plan M_read M_readPage M_page M_trial M_book M_kept M_isKept M_seenPoint M_seenSum M_seenWas p5 p2 p3 r5 hc4) kw_368 kw_365 kw_366 kw_367 kw_5 (by decide +kernel) (by decide) rfl rfl rfl hl.1 rfl (Nat.le_of_ble_eq_true rfl) ⟨Nat.zero_le _, Nat.zero_le _⟩ dX7_servedBy_22) (fun H locs hP hS => ?_)
    refine lv_aload_n hx hb dX7_servedBy_25 rfl (lv_at hl 1 rfl) ?_
    refine lv_iconst (v := (3 : Int32)) hx hb dX7_servedBy_26 (by decide) ?_
    refine lv_iload hx hb dX7_servedBy_27 (lv_at hl 5 rfl) ?_
    refine lv_iadd hx hb dX7_servedBy_29 ?_
    obtain ⟨hb6, h⟩ := oc_else h
    refine va_iald hx hb hK hP 6 0 rfl rfl hb6 dX7_servedBy_30 ?_
    refine lv_icmp_lt (tgt := 41) hx hb dX7_servedBy_31 (by decide) (fun c7 => ?_) (fun c7 => ?_)
    · have h := oc_t c7 h
      refine lv_iconst (v := (0 : Int32)) hx hb dX7_servedBy_41 (by decide) ?_
      refine lv_ior hx hb dX7_servedBy_42 ?_
      refine lv_topi (fun t8 e_t8 => ?_)
      have h := oc_nm e_t8 h
      refine lv_istore (lv' := [(4, .int t8), (0, .ref a_M), (1, .ref a_M_trial), (2, .int p2), (3, .int p3), (5, .int p5)]) hx hb dX7_servedBy_43 hl (by decide) rfl (fun ls hl => ?_)
      obtain ⟨t9, e_t9⟩ : ∃ y : Int32, y = p5 + (1 : Int32) := ⟨_, rfl⟩
      have h := oc_nm e_t9 h
      refine lv_iinc (v := t9) (lv' := [(5, .int t9), (4, .int t8), (0, .ref a_M), (1, .ref a_M_trial), (2, .int p2), (3, .int p3)]) hx hb dX7_servedBy_45 hl (k := 5) rfl (by rw [e_t9]; rfl) (by decide) rfl (fun ls hl => ?_)
      refine lv_goto (tgt := 6) hx hb dX7_servedBy_48 (by decide) ?_
      exact hk6 _ _ h _ _ hP hD hS _ (lv_sub hl [2, 3, 4, 5, 1, 0] rfl)
    · have h := oc_f c7 h
      refine lv_iconst (v := (1 : Int32)) hx hb dX7_servedBy_34 (by decide) ?_
      refine lv_iload hx hb dX7_servedBy_35 (lv_at hl 5 rfl) ?_
      refine lv_ishl hx hb dX7_servedBy_37 ?_
      refine lv_goto (tgt := 42) hx hb dX7_servedBy_38 (by decide) ?_
      refine lv_ior hx hb dX7_servedBy_42 ?_
      refine lv_topi (fun t10 e_t10 => ?_)
      have h := oc_nm e_t10 h
      refine lv_istore (lv' := [(4, .int t10), (0, .ref a_M), (1, .ref a_M_trial), (2, .int p2), (3, .int p3), (5, .int p5)]) hx hb dX7_servedBy_43 hl (by decide) rfl (fun ls hl => ?_)
      obtain ⟨t11, e_t11⟩ : ∃ y : Int32, y = p5 + (1 : Int32) := ⟨_, rfl⟩
      have h := oc_nm e_t11 h
      refine lv_iinc (v := t11) (lv' := [(5, .int t11), (4, .int t10), (0, .ref a_M), (1, .ref a_M_trial), (2, .int p2), (3, .int p3)]) hx hb dX7_servedBy_45 hl (k := 5) rfl (by rw [e_t11]; rfl) (by decide) rfl (fun ls hl => ?_)
      refine lv_goto (tgt := 6) hx hb dX7_servedBy_48 (by decide) ?_
      exact hk6 _ _ h _ _ hP hD hS _ (lv_sub hl [2, 3, 4, 5, 1, 0] rfl)
noncomputable def lp_X7_servedBy_trial_6  (M_plan : Nat → Int32) (M_trial : Nat → Int32) (p2 : Int32) (p3 : Int32) (n : Nat) : Int32 → Int32 → Option (Int32) := Nat.rec (motive := fun _ => Int32 → Int32 → Option (Int32)) (fun _ _ => none) (fun _ ih => bk_X7_servedBy_trial_6  ih M_plan M_trial p2 p3) n
set_option maxHeartbeats 4000000 in
set_option maxRecDepth 100000 in
theorem wl_X7_servedBy_trial_6 {p : Program} {l : Launch} {e : Env} {s : State} {m : MethodId} {args : Array Value} {below : List Frame} {meth : Method} {c : Code} {D : va_G} {cI cC cZ : ClassId} {A : Nat → Prop} {a_M a_M_text a_M_plan a_M_read a_M_readPage a_M_page a_M_trial a_M_book a_M_kept a_M_isKept a_M_seenPoint a_M_seenSum a_M_seenWas : Nat} {M_thrown : Int32} {M_textSize : Int32} {M_place : Int32} {M_doings : Int32} {M_seen : Int32} {M_seed : Int64} {M_bestSet : Int32} {M_text : Nat → Int32} {M_plan : Nat → Int32} {M_read : Nat → Int32} {M_readPage : Nat → Int32} {M_page : Nat → Int32} {M_trial : Nat → Int32} {M_book : Nat → Int32} {M_kept : Nat → Int32} {M_isKept : Nat → Int32} {M_seenPoint : Nat → Int32} {M_seenSum : Nat → Int32} {M_seenWas : Nat → Int32} {p2 : Int32} {p3 : Int32}  {rr : Int32} (C0 : kC p s m args meth c D (kTY cI cC cZ) cX7_servedBy (some .int) 6 RX7 A)  : ∀ (n : Nat) (p4 : Int32) (p5 : Int32), lp_X7_servedBy_trial_6  M_plan M_trial p2 p3 n p4 p5 = some rr → ∀ (H : Heap) (locs : List Loc), va_P D vwCl (WD16 cI cC cZ a_M a_M_text a_M_plan a_M_read a_M_readPage a_M_page a_M_trial a_M_book a_M_kept a_M_isKept a_M_seenPoint a_M_seenSum a_M_seenWas M_thrown M_textSize M_place M_doings M_seen M_seed M_bestSet M_text M_plan M_read M_readPage M_page M_trial M_book M_kept M_isKept M_seenPoint M_seenSum M_seenWas) H → va_D A (WD16 cI cC cZ a_M a_M_text a_M_plan a_M_read a_M_readPage a_M_page a_M_trial a_M_book a_M_kept a_M_isKept a_M_seenPoint a_M_seenSum a_M_seenWas M_thrown M_textSize M_place M_doings M_seen M_seed M_bestSet M_text M_plan M_read M_readPage M_page M_trial M_book M_kept M_isKept M_seenPoint M_seenSum M_seenWas) → va_S A s.heap H locs → ∀ ls : Array Slot, lv_has ls 6 [(0, .ref a_M), (1, .ref a_M_trial), (2, .int p2), (3, .int p3), (4, .int p4), (5, .int p5)] → W p l e rm_X7_servedBy_trial s m args below meth c H locs 0 0 (MQ below (kQI D (kTY cI cC cZ) A rr (WD16 cI cC cZ a_M a_M_text a_M_plan a_M_read a_M_readPage a_M_page a_M_trial a_M_book a_M_kept a_M_isKept a_M_seenPoint a_M_seenSum a_M_seenWas M_thrown M_textSize M_place M_doings M_seen M_seed M_bestSet M_text M_plan M_read M_readPage M_page M_trial M_book M_kept M_isKept M_seenPoint M_seenSum M_seenWas)) args s 0 0 A) (F0 m 6 ls []) := by
  intro n
  induction n with
  | zero => intro p4 p5 h; cases (show (none : Option (Int32)) = some _ from h)
  | succ n ih =>
    intro p4 p5 h H locs hP hD hS ls hl
    exact wk_X7_servedBy_trial_6 C0  (fun p4 p5 h H locs hP hD hS ls hl => ih p4 p5 h H locs hP hD hS ls hl) (show bk_X7_servedBy_trial_6  (lp_X7_servedBy_trial_6  M_plan M_trial p2 p3 n) M_plan M_trial p2 p3 p4 p5 = some _ from h) hP hD hS hl
noncomputable def f_X7_servedBy_trial (M_plan : Nat → Int32) (M_trial : Nat → Int32) (p2 : Int32) (p3 : Int32) : Option (Int32) := lp_X7_servedBy_trial_6  M_plan M_trial p2 p3 1000 (0 : Int32) (0 : Int32)
set_option maxHeartbeats 4000000 in
set_option maxRecDepth 100000 in
theorem c_X7_servedBy_trial (l : Launch) (D : va_G) (cI cC cZ : ClassId) (a_M a_M_text a_M_plan a_M_read a_M_readPage a_M_page a_M_trial a_M_book a_M_kept a_M_isKept a_M_seenPoint a_M_seenSum a_M_seenWas : Nat) (sz : Nat) (M_thrown : Int32) (M_textSize : Int32) (M_place : Int32) (M_doings : Int32) (M_seen : Int32) (M_seed : Int64) (M_bestSet : Int32) (M_text : Nat → Int32) (M_plan : Nat → Int32) (M_read : Nat → Int32) (M_readPage : Nat → Int32) (M_page : Nat → Int32) (M_trial : Nat → Int32) (M_book : Nat → Int32) (M_kept : Nat → Int32) (M_isKept : Nat → Int32) (M_seenPoint : Nat → Int32) (M_seenSum : Nat → Int32) (M_seenWas : Nat → Int32) (p2 : Int32) (p3 : Int32) (rr : Int32) (hf : f_X7_servedBy_trial M_plan M_trial p2 p3 = some rr) : kMet l yX7_servedBy cX7_servedBy 6 (some .int) rm_X7_servedBy_trial D (kTY cI cC cZ) [.ref a_M, .ref a_M_trial, .int p2, .int p3] (WD16 cI cC cZ a_M a_M_text a_M_plan a_M_read a_M_readPage a_M_page a_M_trial a_M_book a_M_kept a_M_isKept a_M_seenPoint a_M_seenSum a_M_seenWas M_thrown M_textSize M_place M_doings M_seen M_seed M_bestSet M_text M_plan M_read M_readPage M_page M_trial M_book M_kept M_isKept M_seenPoint M_seenSum M_seenWas) sz (kQI D (kTY cI cC cZ) (va_A (WD16 cI cC cZ a_M a_M_text a_M_plan a_M_read a_M_readPage a_M_page a_M_trial a_M_book a_M_kept a_M_isKept a_M_seenPoint a_M_seenSum a_M_seenWas M_thrown M_textSize M_place M_doings M_seen M_seed M_bestSet M_text M_plan M_read M_readPage M_page M_trial M_book M_kept M_isKept M_seenPoint M_seenSum M_seenWas) sz) rr (WD16 cI cC cZ a_M a_M_text a_M_plan a_M_read a_M_readPage a_M_page a_M_trial a_M_book a_M_kept a_M_isKept a_M_seenPoint a_M_seenSum a_M_seenWas M_thrown M_textSize M_place M_doings M_seen M_seed M_bestSet M_text M_plan M_read M_readPage M_page M_trial M_book M_kept M_isKept M_seenPoint M_seenSum M_seenWas)) := by
  refine kEnter (lv := [(0, .ref a_M), (1, .ref a_M_trial), (2, .int p2), (3, .int p3)]) (own := RX7) (by decide) rfl (Nat.le_of_ble_eq_true rfl) rfl ?_
  intro p e s m below meth c hsz C0 hP hD hS ls hl
  generalize (va_A (WD16 cI cC cZ a_M a_M_text a_M_plan a_M_read a_M_readPage a_M_page a_M_trial a_M_book a_M_kept a_M_isKept a_M_seenPoint a_M_seenSum a_M_seenWas M_thrown M_textSize M_place M_doings M_seen M_seed M_bestSet M_text M_plan M_read M_readPage M_page M_trial M_book M_kept M_isKept M_seenPoint M_seenSum M_seenWas) sz) = A at C0 hD hS ⊢
  clear hsz hS
  obtain ⟨H, hHs⟩ : ∃ H : Heap, H = s.heap := ⟨_, rfl⟩
  have hS : va_S A s.heap H [] := by rw [hHs]; exact va_S.rf
  rw [← hHs] at hP ⊢
  obtain ⟨hx, hb, hr, hml, hown, hts, hK, hN, hA, hlocks, hF⟩ := id C0
  have h := hf
  unfold f_X7_servedBy_trial at h
  refine lv_iconst (v := (0 : Int32)) hx hb dX7_servedBy_0 (by decide) ?_
  refine lv_istore (lv' := [(4, .int (0 : Int32)), (0, .ref a_M), (1, .ref a_M_trial), (2, .int p2), (3, .int p3)]) hx hb dX7_servedBy_1 hl (by decide) rfl (fun ls hl => ?_)
  refine lv_iconst (v := (0 : Int32)) hx hb dX7_servedBy_3 (by decide) ?_
  refine lv_istore (lv' := [(5, .int (0 : Int32)), (4, .int (0 : Int32)), (0, .ref a_M), (1, .ref a_M_trial), (2, .int p2), (3, .int p3)]) hx hb dX7_servedBy_4 hl (by decide) rfl (fun ls hl => ?_)
  exact wl_X7_servedBy_trial_6 C0  _ _ _ h _ _ hP hD hS _ (lv_sub hl [2, 3, 4, 5, 1, 0] rfl)
abbrev rm_X7_does : Room := { frames := 8, cells := 0, slots := 0, locals := 206 }
noncomputable def bk_X7_does_324  (M_trial : Nat → Int32) (s0 : Int32) (s1 : Int32) : Option (Int32 × (Nat → Int32)) := if s1 = s0 then (some ((1 : Int32), M_trial)) else (some ((0 : Int32), M_trial))
set_option maxHeartbeats 4000000 in
set_option maxRecDepth 100000 in
theorem wk_X7_does_324 {p : Program} {l : Launch} {e : Env} {s : State} {m : MethodId} {args : Array Value} {below : List Frame} {meth : Method} {c : Code} {D : va_G} {cI cC cZ : ClassId} {A : Nat → Prop} {a_M a_M_text a_M_plan a_M_read a_M_readPage a_M_page a_M_trial a_M_book a_M_kept a_M_isKept a_M_seenPoint a_M_seenSum a_M_seenWas : Nat} {M_thrown : Int32} {M_textSize : Int32} {M_place : Int32} {M_doings : Int32} {M_seen : Int32} {M_seed : Int64} {M_bestSet : Int32} {M_text : Nat → Int32} {M_plan : Nat → Int32} {M_read : Nat → Int32} {M_readPage : Nat → Int32} {M_page : Nat → Int32} {M_trial : Nat → Int32} {M_book : Nat → Int32} {M_kept : Nat → Int32} {M_isKept : Nat → Int32} {M_seenPoint : Nat → Int32} {M_seenSum : Nat → Int32} {M_seenWas : Nat → Int32} {s0 : Int32} {s1 : Int32}  {rr : Int32} {u_M_trial : Nat → Int32} (C0 : kC p s m args meth c D (kTY cI cC cZ) cX7_does (some .boolean) 6 RX7 A)  (h : bk_X7_does_324  M_trial s0 s1 = some (rr, u_M_trial)) {H : Heap} {locs : List Loc} (hP : va_P D vwCl (WD16 cI cC cZ a_M a_M_text a_M_plan a_M_read a_M_readPage a_M_page a_M_trial a_M_book a_M_kept a_M_isKept a_M_seenPoint a_M_seenSum a_M_seenWas M_thrown M_textSize M_place M_doings M_seen M_seed M_bestSet M_text M_plan M_read M_readPage M_page M_trial M_book M_kept M_isKept M_seenPoint M_seenSum M_seenWas) H) (hD : va_D A (WD16 cI cC cZ a_M a_M_text a_M_plan a_M_read a_M_readPage a_M_page a_M_trial a_M_book a_M_kept a_M_isKept a_M_seenPoint a_M_seenSum a_M_seenWas M_thrown M_textSize M_place M_doings M_seen M_seed M_bestSet M_text M_plan M_read M_readPage M_page M_trial M_book M_kept M_isKept M_seenPoint M_seenSum M_seenWas)) (hS : va_S A s.heap H locs) {ls : Array Slot} (hl : lv_has ls 6 []) : W p l e rm_X7_does s m args below meth c H locs 0 0 (MQ below (kQI D (kTY cI cC cZ) A rr (WD16 cI cC cZ a_M a_M_text a_M_plan a_M_read a_M_readPage a_M_page a_M_trial a_M_book a_M_kept a_M_isKept a_M_seenPoint a_M_seenSum a_M_seenWas M_thrown M_textSize M_place M_doings M_seen M_seed M_bestSet M_text M_plan M_read M_readPage M_page u_M_trial M_book M_kept M_isKept M_seenPoint M_seenSum M_seenWas)) args s 0 0 A) (F0 m 324 ls [.int s0, .int s1]) := by
  obtain ⟨hx, hb, hr, hml, hown, hts, hK, hN, hA, hlocks, hF⟩ := id C0
  unfold bk_X7_does_324 at h
  refine lv_icmp_ne (tgt := 331) hx hb dX7_does_324 (by decide) (fun c1 => ?_) (fun c1 => ?_)
  · have h := oc_f c1 h
    refine lv_iconst (v := (0 : Int32)) hx hb dX7_does_331 (by decide) ?_
    cases h
    exact kret_i C0 hP hD hS (by decide) dX7_does_332
  · have h := oc_t c1 h
    refine lv_iconst (v := (1 : Int32)) hx hb dX7_does_327 (by decide) ?_
    refine lv_goto (tgt := 332) hx hb dX7_does_328 (by decide) ?_
    cases h
    exact kret_i C0 hP hD hS (by decide) dX7_does_332
noncomputable def bk_X7_does_313  (M_trial : Nat → Int32) (p4 : Int32) (s0 : Int32) : Option (Int32 × (Nat → Int32)) := if p4 = (1 : Int32) then (bk_X7_does_324  M_trial (1 : Int32) s0) else (bk_X7_does_324  M_trial (0 : Int32) s0)
set_option maxHeartbeats 4000000 in
set_option maxRecDepth 100000 in
theorem wk_X7_does_313 {p : Program} {l : Launch} {e : Env} {s : State} {m : MethodId} {args : Array Value} {below : List Frame} {meth : Method} {c : Code} {D : va_G} {cI cC cZ : ClassId} {A : Nat → Prop} {a_M a_M_text a_M_plan a_M_read a_M_readPage a_M_page a_M_trial a_M_book a_M_kept a_M_isKept a_M_seenPoint a_M_seenSum a_M_seenWas : Nat} {M_thrown : Int32} {M_textSize : Int32} {M_place : Int32} {M_doings : Int32} {M_seen : Int32} {M_seed : Int64} {M_bestSet : Int32} {M_text : Nat → Int32} {M_plan : Nat → Int32} {M_read : Nat → Int32} {M_readPage : Nat → Int32} {M_page : Nat → Int32} {M_trial : Nat → Int32} {M_book : Nat → Int32} {M_kept : Nat → Int32} {M_isKept : Nat → Int32} {M_seenPoint : Nat → Int32} {M_seenSum : Nat → Int32} {M_seenWas : Nat → Int32} {p4 : Int32} {s0 : Int32}  {rr : Int32} {u_M_trial : Nat → Int32} (C0 : kC p s m args meth c D (kTY cI cC cZ) cX7_does (some .boolean) 6 RX7 A)  (h : bk_X7_does_313  M_trial p4 s0 = some (rr, u_M_trial)) {H : Heap} {locs : List Loc} (hP : va_P D vwCl (WD16 cI cC cZ a_M a_M_text a_M_plan a_M_read a_M_readPage a_M_page a_M_trial a_M_book a_M_kept a_M_isKept a_M_seenPoint a_M_seenSum a_M_seenWas M_thrown M_textSize M_place M_doings M_seen M_seed M_bestSet M_text M_plan M_read M_readPage M_page M_trial M_book M_kept M_isKept M_seenPoint M_seenSum M_seenWas) H) (hD : va_D A (WD16 cI cC cZ a_M a_M_text a_M_plan a_M_read a_M_readPage a_M_page a_M_trial a_M_book a_M_kept a_M_isKept a_M_seenPoint a_M_seenSum a_M_seenWas M_thrown M_textSize M_place M_doings M_seen M_seed M_bestSet M_text M_plan M_read M_readPage M_page M_trial M_book M_kept M_isKept M_seenPoint M_seenSum M_seenWas)) (hS : va_S A s.heap H locs) {ls : Array Slot} (hl : lv_has ls 6 [(4, .int p4)]) : W p l e rm_X7_does s m args below meth c H locs 0 0 (MQ below (kQI D (kTY cI cC cZ) A rr (WD16 cI cC cZ a_M a_M_text a_M_plan a_M_read a_M_readPage a_M_page a_M_trial a_M_book a_M_kept a_M_isKept a_M_seenPoint a_M_seenSum a_M_seenWas M_thrown M_textSize M_place M_doings M_seen M_seed M_bestSet M_text M_plan M_read M_readPage M_page u_M_trial M_book M_kept M_isKept M_seenPoint M_seenSum M_seenWas)) args s 0 0 A) (F0 m 313 ls [.int s0]) := by
  obtain ⟨hx, hb, hr, hml, hown, hts, hK, hN, hA, hlocks, hF⟩ := id C0
  unfold bk_X7_does_313 at h
  refine lv_iload hx hb dX7_does_313 (lv_at hl 0 rfl) ?_
  refine lv_iconst (v := (1 : Int32)) hx hb dX7_does_315 (by decide) ?_
  refine lv_icmp_ne (tgt := 323) hx hb dX7_does_316 (by decide) (fun c1 => ?_) (fun c1 => ?_)
  · have h := oc_f c1 h
    refine lv_iconst (v := (0 : Int32)) hx hb dX7_does_323 (by decide) ?_
    exact wk_X7_does_324 C0  h hP hD hS (lv_sub hl [] rfl)
  · have h := oc_t c1 h
    refine lv_iconst (v := (1 : Int32)) hx hb dX7_does_319 (by decide) ?_
    refine lv_goto (tgt := 324) hx hb dX7_does_320 (by decide) ?_
    exact wk_X7_does_324 C0  h hP hD hS (lv_sub hl [] rfl)
noncomputable def bk_X7_does_238  (M_trial : Nat → Int32) (s0 : Int32) (s1 : Int32) : Option (Int32 × (Nat → Int32)) := if s1 = s0 then (some ((1 : Int32), M_trial)) else (some ((0 : Int32), M_trial))
set_option maxHeartbeats 4000000 in
set_option maxRecDepth 100000 in
theorem wk_X7_does_238 {p : Program} {l : Launch} {e : Env} {s : State} {m : MethodId} {args : Array Value} {below : List Frame} {meth : Method} {c : Code} {D : va_G} {cI cC cZ : ClassId} {A : Nat → Prop} {a_M a_M_text a_M_plan a_M_read a_M_readPage a_M_page a_M_trial a_M_book a_M_kept a_M_isKept a_M_seenPoint a_M_seenSum a_M_seenWas : Nat} {M_thrown : Int32} {M_textSize : Int32} {M_place : Int32} {M_doings : Int32} {M_seen : Int32} {M_seed : Int64} {M_bestSet : Int32} {M_text : Nat → Int32} {M_plan : Nat → Int32} {M_read : Nat → Int32} {M_readPage : Nat → Int32} {M_page : Nat → Int32} {M_trial : Nat → Int32} {M_book : Nat → Int32} {M_kept : Nat → Int32} {M_isKept : Nat → Int32} {M_seenPoint : Nat → Int32} {M_seenSum : Nat → Int32} {M_seenWas : Nat → Int32} {s0 : Int32} {s1 : Int32}  {rr : Int32} {u_M_trial : Nat → Int32} (C0 : kC p s m args meth c D (kTY cI cC cZ) cX7_does (some .boolean) 6 RX7 A)  (h : bk_X7_does_238  M_trial s0 s1 = some (rr, u_M_trial)) {H : Heap} {locs : List Loc} (hP : va_P D vwCl (WD16 cI cC cZ a_M a_M_text a_M_plan a_M_read a_M_readPage a_M_page a_M_trial a_M_book a_M_kept a_M_isKept a_M_seenPoint a_M_seenSum a_M_seenWas M_thrown M_textSize M_place M_doings M_seen M_seed M_bestSet M_text M_plan M_read M_readPage M_page M_trial M_book M_kept M_isKept M_seenPoint M_seenSum M_seenWas) H) (hD : va_D A (WD16 cI cC cZ a_M a_M_text a_M_plan a_M_read a_M_readPage a_M_page a_M_trial a_M_book a_M_kept a_M_isKept a_M_seenPoint a_M_seenSum a_M_seenWas M_thrown M_textSize M_place M_doings M_seen M_seed M_bestSet M_text M_plan M_read M_readPage M_page M_trial M_book M_kept M_isKept M_seenPoint M_seenSum M_seenWas)) (hS : va_S A s.heap H locs) {ls : Array Slot} (hl : lv_has ls 6 []) : W p l e rm_X7_does s m args below meth c H locs 0 0 (MQ below (kQI D (kTY cI cC cZ) A rr (WD16 cI cC cZ a_M a_M_text a_M_plan a_M_read a_M_readPage a_M_page a_M_trial a_M_book a_M_kept a_M_isKept a_M_seenPoint a_M_seenSum a_M_seenWas M_thrown M_textSize M_place M_doings M_seen M_seed M_bestSet M_text M_plan M_read M_readPage M_page u_M_trial M_book M_kept M_isKept M_seenPoint M_seenSum M_seenWas)) args s 0 0 A) (F0 m 238 ls [.int s0, .int s1]) := by
  obtain ⟨hx, hb, hr, hml, hown, hts, hK, hN, hA, hlocks, hF⟩ := id C0
  unfold bk_X7_does_238 at h
  refine lv_icmp_ne (tgt := 245) hx hb dX7_does_238 (by decide) (fun c1 => ?_) (fun c1 => ?_)
  · have h := oc_f c1 h
    refine lv_iconst (v := (0 : Int32)) hx hb dX7_does_245 (by decide) ?_
    cases h
    exact kret_i C0 hP hD hS (by decide) dX7_does_246
  · have h := oc_t c1 h
    refine lv_iconst (v := (1 : Int32)) hx hb dX7_does_241 (by decide) ?_
    refine lv_goto (tgt := 246) hx hb dX7_does_242 (by decide) ?_
    cases h
    exact kret_i C0 hP hD hS (by decide) dX7_does_246
noncomputable def f_X7_does (M_plan : Nat → Int32) (M_trial : Nat → Int32) (p1 : Int32) (p2 : Int32) (p3 : Int32) (p4 : Int32) : Option (Int32 × (Nat → Int32)) := nm_ (((10 : Int32) * p3) + p4) (fun t1 => if p1 = (1 : Int32) then ((f_X7_noSpot M_plan p2).bind (fun r4 => if r4 = 0 then (if t1 = 0 then ((f_X7_hangOn M_trial p2).bind (fun u8 => some ((1 : Int32), u8))) else (some ((0 : Int32), M_trial))) else (some ((0 : Int32), M_trial)))) else (if p1 = (2 : Int32) then ((f_X7_noSpot M_plan p2).bind (fun r11 => if r11 = 0 then (if t1 = 0 then ((f_X7_has (M_trial (Int32.toNatClampNeg (0 : Int32))) p2).bind (fun r15 => if r15 = 0 then (some ((0 : Int32), M_trial)) else (some ((1 : Int32), (upd M_trial (Int32.toNatClampNeg (1 : Int32)) ((M_trial (Int32.toNatClampNeg (1 : Int32))) ^^^ ((1 : Int32) <<< (p2 &&& 31)))))))) else (some ((0 : Int32), M_trial))) else (some ((0 : Int32), M_trial)))) else (if p1 = (3 : Int32) then ((f_X7_walls M_plan).bind (fun r19 => if r19 ≤ p2 then (some ((0 : Int32), M_trial)) else (if t1 = 0 then (some ((1 : Int32), (upd M_trial (Int32.toNatClampNeg (2 : Int32)) ((M_trial (Int32.toNatClampNeg (2 : Int32))) ^^^ ((1 : Int32) <<< (p2 &&& 31)))))) else (some ((0 : Int32), M_trial))))) else (if p1 = (4 : Int32) then ((f_X7_noPoint M_plan p2).bind (fun r24 => if r24 = 0 then ((f_X7_live M_trial).bind (fun r27 => (f_X7_sumBy M_plan p2 r27 (M_trial (Int32.toNatClampNeg (2 : Int32)))).bind (fun r29 => if r29 < t1 then (some ((0 : Int32), M_trial)) else (some ((1 : Int32), M_trial))))) else (some ((0 : Int32), M_trial)))) else (if p1 = (5 : Int32) then ((f_X7_noPoint M_plan p2).bind (fun r33 => if r33 = 0 then (if (2 : Int32) ≤ p3 then (some ((0 : Int32), M_trial)) else (if p4 = 0 then ((f_X7_live M_trial).bind (fun r38 => (f_X7_servedBy_trial M_plan M_trial r38 (M_trial (Int32.toNatClampNeg (2 : Int32)))).bind (fun r40 => (f_X7_has r40 p2).bind (fun r42 => if p3 = (1 : Int32) then (bk_X7_does_238  M_trial (1 : Int32) r42) else (bk_X7_does_238  M_trial (0 : Int32) r42))))) else (some ((0 : Int32), M_trial)))) else (some ((0 : Int32), M_trial)))) else (if p1 = (6 : Int32) then ((f_X7_noPoint M_plan p2).bind (fun r46 => if r46 = 0 then (if (((3 : Int32) + p2) < 0 ∨ 9 ≤ Int32.toNatClampNeg ((3 : Int32) + p2)) then none else (some ((1 : Int32), (upd M_trial (Int32.toNatClampNeg ((3 : Int32) + p2)) t1)))) else (some ((0 : Int32), M_trial)))) else (if p1 = (7 : Int32) then ((f_X7_noSpot M_plan p2).bind (fun r51 => if r51 = 0 then ((f_X7_noPoint M_plan p3).bind (fun r54 => if r54 = 0 then (if (2 : Int32) ≤ p4 then (some ((0 : Int32), M_trial)) else ((f_X7_shadeBy M_plan p2 p3 (M_trial (Int32.toNatClampNeg (2 : Int32)))).bind (fun r58 => if r58 = (-9 : Int32) then (bk_X7_does_313  M_trial p4 (0 : Int32)) else (bk_X7_does_313  M_trial p4 (1 : Int32))))) else (some ((0 : Int32), M_trial)))) else (some ((0 : Int32), M_trial)))) else (some ((0 : Int32), M_trial)))))))))
set_option maxHeartbeats 4000000 in
set_option maxRecDepth 100000 in
theorem c_X7_does (l : Launch) (D : va_G) (cI cC cZ : ClassId) (a_M a_M_text a_M_plan a_M_read a_M_readPage a_M_page a_M_trial a_M_book a_M_kept a_M_isKept a_M_seenPoint a_M_seenSum a_M_seenWas : Nat) (sz : Nat) (M_thrown : Int32) (M_textSize : Int32) (M_place : Int32) (M_doings : Int32) (M_seen : Int32) (M_seed : Int64) (M_bestSet : Int32) (M_text : Nat → Int32) (M_plan : Nat → Int32) (M_read : Nat → Int32) (M_readPage : Nat → Int32) (M_page : Nat → Int32) (M_trial : Nat → Int32) (M_book : Nat → Int32) (M_kept : Nat → Int32) (M_isKept : Nat → Int32) (M_seenPoint : Nat → Int32) (M_seenSum : Nat → Int32) (M_seenWas : Nat → Int32) (p1 : Int32) (p2 : Int32) (p3 : Int32) (p4 : Int32) (rr : Int32) (u_M_trial : Nat → Int32) (hf : f_X7_does M_plan M_trial p1 p2 p3 p4 = some (rr, u_M_trial)) : kMet l yX7_does cX7_does 6 (some .boolean) rm_X7_does D (kTY cI cC cZ) [.ref a_M, .int p1, .int p2, .int p3, .int p4] (WD16 cI cC cZ a_M a_M_text a_M_plan a_M_read a_M_readPage a_M_page a_M_trial a_M_book a_M_kept a_M_isKept a_M_seenPoint a_M_seenSum a_M_seenWas M_thrown M_textSize M_place M_doings M_seen M_seed M_bestSet M_text M_plan M_read M_readPage M_page M_trial M_book M_kept M_isKept M_seenPoint M_seenSum M_seenWas) sz (kQI D (kTY cI cC cZ) (va_A (WD16 cI cC cZ a_M a_M_text a_M_plan a_M_read a_M_readPage a_M_page a_M_trial a_M_book a_M_kept a_M_isKept a_M_seenPoint a_M_seenSum a_M_seenWas M_thrown M_textSize M_place M_doings M_seen M_seed M_bestSet M_text M_plan M_read M_readPage M_page M_trial M_book M_kept M_isKept M_seenPoint M_seenSum M_seenWas) sz) rr (WD16 cI cC cZ a_M a_M_text a_M_plan a_M_read a_M_readPage a_M_page a_M_trial a_M_book a_M_kept a_M_isKept a_M_seenPoint a_M_seenSum a_M_seenWas M_thrown M_textSize M_place M_doings M_seen M_seed M_bestSet M_text M_plan M_read M_readPage M_page u_M_trial M_book M_kept M_isKept M_seenPoint M_seenSum M_seenWas)) := by
  refine kEnter (lv := [(0, .ref a_M), (1, .int p1), (2, .int p2), (3, .int p3), (4, .int p4)]) (own := RX7) (by decide) rfl (Nat.le_of_ble_eq_true rfl) rfl ?_
  intro p e s m below meth c hsz C0 hP hD hS ls hl
  generalize (va_A (WD16 cI cC cZ a_M a_M_text a_M_plan a_M_read a_M_readPage a_M_page a_M_trial a_M_book a_M_kept a_M_isKept a_M_seenPoint a_M_seenSum a_M_seenWas M_thrown M_textSize M_place M_doings M_seen M_seed M_bestSet M_text M_plan M_read M_readPage M_page M_trial M_book M_kept M_isKept M_seenPoint M_seenSum M_seenWas) sz) = A at C0 hD hS ⊢
  clear hsz hS
  obtain ⟨H, hHs⟩ : ∃ H : Heap, H = s.heap := ⟨_, rfl⟩
  have hS : va_S A s.heap H [] := by rw [hHs]; exact va_S.rf
  rw [← hHs] at hP ⊢
  obtain ⟨hx, hb, hr, hml, hown, hts, hK, hN, hA, hlocks, hF⟩ := id C0
  have h := hf
  unfold f_X7_does at h
  refine lv_bipush (v := (10 : Int32)) hx hb dX7_does_0 (by decide) ?_
  refine lv_iload_n hx hb dX7_does_2 rfl (lv_at hl 3 rfl) ?_
  refine lv_imul hx hb dX7_does_3 ?_
  refine lv_iload hx hb dX7_does_4 (lv_at hl 4 rfl) ?_
  refine lv_iadd hx hb dX7_does_6 ?_
  refine lv_topi (fun t1 e_t1 => ?_)
  have h := oc_nm e_t1 h
  refine lv_istore (lv' := [(5, .int t1), (0, .ref a_M), (1, .int p1), (2, .int p2), (3, .int p3), (4, .int p4)]) hx hb dX7_does_7 hl (by decide) rfl (fun ls hl => ?_)
  refine lv_iload_n hx hb dX7_does_9 rfl (lv_at hl 2 rfl) ?_
  by_cases c2 : p1 = (1 : Int32)
  · have h := oc_t c2 h
    refine lv_tableIn (tgt := 52) (off := 42) hx hb dX7_does_10 (by rw [c2]; decide) (by rw [c2]; decide) (by rw [c2]; rfl) (by decide) ?_
    refine lv_aload_n hx hb dX7_does_52 rfl (lv_at hl 1 rfl) ?_
    refine lv_iload_n hx hb dX7_does_53 rfl (lv_at hl 3 rfl) ?_
    obtain ⟨r4, hc3, h⟩ := oc_bind h
    refine kro_i (wc := (WD16 cI cC cZ a_M a_M_text a_M_plan a_M_read a_M_readPage a_M_page a_M_trial a_M_book a_M_kept a_M_isKept a_M_seenPoint a_M_seenSum a_M_seenWas M_thrown M_textSize M_place M_doings M_seen M_seed M_bestSet M_text M_plan M_read M_readPage M_page M_trial M_book M_kept M_isKept M_seenPoint M_seenSum M_seenWas)) C0 hP hD hS [0, 1, 2, 3, 4, 5, 6, 7, 8, 9, 10, 11, 12] rfl (kV (n := 1) (As := [.int p2]) (rest := []) (wc := (WD16 cI cC cZ a_M a_M_text a_M_plan a_M_read a_M_readPage a_M_page a_M_trial a_M_book a_M_kept a_M_isKept a_M_seenPoint a_M_seenSum a_M_seenWas M_thrown M_textSize M_place M_doings M_seen M_seed M_bestSet M_text M_plan M_read M_readPage M_page M_trial M_book M_kept M_isKept M_seenPoint M_seenSum M_seenWas)) (C := RX7) C0 hP hD hS [0, 1, 2, 3, 4, 5, 6, 7, 8, 9, 10, 11, 12] rfl (by decide) (c_X7_noSpot l D cI cC cZ a_M a_M_text a_M_plan a_M_read a_M_readPage a_M_page a_M_trial a_M_book a_M_kept a_M_isKept a_M_seenPoint a_M_seenSum a_M_seenWas H.size M_thrown M_textSize M_place M_doings M_seen M_seed M_bestSet M_text M_plan M_read M_readPage M_page M_trial M_book M_kept M_isKept M_seenPoint M_seenSum M_seenWas p2 r4 hc3) kw_299 kw_296 kw_297 kw_298 kw_5 (by decide +kernel) (by decide) rfl rfl rfl hl.1 rfl (Nat.le_of_ble_eq_true rfl) ⟨Nat.zero_le _, Nat.zero_le _⟩ dX7_does_54) (fun H locs hP hS => ?_)
    refine lv_if_ne (tgt := 65) hx hb dX7_does_57 (by decide) (fun c5 => ?_) (fun c5 => ?_)
    · have h := oc_f c5 h
      refine lv_iconst (v := (0 : Int32)) hx hb dX7_does_65 (by decide) ?_
      cases h
      exact kret_i C0 hP hD hS (by decide) dX7_does_66
    · have h := oc_t c5 h
      refine lv_iload hx hb dX7_does_60 (lv_at hl 0 rfl) ?_
      refine lv_if_eq (tgt := 67) hx hb dX7_does_62 (by decide) (fun c6 => ?_) (fun c6 => ?_)
      · have h := oc_t c6 h
        refine lv_aload_n hx hb dX7_does_67 rfl (lv_at hl 1 rfl) ?_
        refine va_get (D := D) (ci := 7) (v := .ref a_M_trial) (C := RX7) (T := TX7) (N := 19) hx hb hts inlX7 hown hK hP 0 rfl rfl 8 (by decide) (hts _ kw_89) (fun _ h9 => h9) rfl dX7_does_68 ?_
        refine lv_iload_n hx hb dX7_does_71 rfl (lv_at hl 3 rfl) ?_
        obtain ⟨u8, hc7, h⟩ := oc_bind h
        refine kgo_v (wc := (WD17 cI cC cZ a_M_trial M_trial)) (wc' := (WD17 cI cC cZ a_M_trial u8)) (ws' := (WD16 cI cC cZ a_M a_M_text a_M_plan a_M_read a_M_readPage a_M_page a_M_trial a_M_book a_M_kept a_M_isKept a_M_seenPoint a_M_seenSum a_M_seenWas M_thrown M_textSize M_place M_doings M_seen M_seed M_bestSet M_text M_plan M_read M_readPage M_page u8 M_book M_kept M_isKept M_seenPoint M_seenSum M_seenWas)) C0 hP hD hS [6] [0, 1, 2, 3, 4, 5, 7, 8, 9, 10, 11, 12] [0, 1, 2, 3, 4, 5, 12, 6, 7, 8, 9, 10, 11] [(a_M, .inr (7, [.int M_thrown, .ref a_M_text, .int M_textSize, .int M_place, .ref a_M_plan, .ref a_M_read, .ref a_M_readPage, .ref a_M_page, .ref a_M_trial, .ref a_M_book, .int M_doings, .ref a_M_kept, .ref a_M_isKept, .int M_seen, .ref a_M_seenPoint, .ref a_M_seenSum, .ref a_M_seenWas, .long M_seed, .int M_bestSet])), (a_M_text, .inl (cI, 99, .inl M_text)), (a_M_plan, .inl (cI, 78, .inl M_plan)), (a_M_read, .inl (cI, 78, .inl M_read)), (a_M_readPage, .inl (cI, 9, .inl M_readPage)), (a_M_page, .inl (cI, 9, .inl M_page)), (a_M_book, .inl (cI, 126, .inl M_book)), (a_M_kept, .inl (cI, 18, .inl M_kept)), (a_M_isKept, .inl (cZ, 2, .inl M_isKept)), (a_M_seenPoint, .inl (cI, 6, .inl M_seenPoint)), (a_M_seenSum, .inl (cI, 6, .inl M_seenSum)), (a_M_seenWas, .inl (cI, 6, .inl M_seenWas))] rfl rfl (by decide) (by decide) rfl (by decide) (kS (n := 2) (As := [.ref a_M_trial, .int p2]) (rest := []) (wc := (WD17 cI cC cZ a_M_trial M_trial)) C0 hP hD hS [6] rfl (by decide) (c_X7_hangOn l D cI cC cZ a_M_trial H.size M_trial p2 u8 hc7) kw_461 kw_459 kw_460 kw_5 (by decide +kernel) (by decide) rfl hl.1 rfl (Nat.le_of_ble_eq_true rfl) ⟨Nat.zero_le _, Nat.zero_le _⟩ dX7_does_72) (fun H locs hP hD hS => ?_)
        refine lv_iconst (v := (1 : Int32)) hx hb dX7_does_75 (by decide) ?_
        cases h
        exact kret_i C0 hP hD hS (by decide) dX7_does_76
      · have h := oc_f c6 h
        refine lv_iconst (v := (0 : Int32)) hx hb dX7_does_65 (by decide) ?_
        cases h
        exact kret_i C0 hP hD hS (by decide) dX7_does_66
  · have h := oc_f c2 h
    by_cases c9 : p1 = (2 : Int32)
    · have h := oc_t c9 h
      refine lv_tableIn (tgt := 77) (off := 67) hx hb dX7_does_10 (by rw [c9]; decide) (by rw [c9]; decide) (by rw [c9]; rfl) (by decide) ?_
      refine lv_aload_n hx hb dX7_does_77 rfl (lv_at hl 1 rfl) ?_
      refine lv_iload_n hx hb dX7_does_78 rfl (lv_at hl 3 rfl) ?_
      obtain ⟨r11, hc10, h⟩ := oc_bind h
      refine kro_i (wc := (WD16 cI cC cZ a_M a_M_text a_M_plan a_M_read a_M_readPage a_M_page a_M_trial a_M_book a_M_kept a_M_isKept a_M_seenPoint a_M_seenSum a_M_seenWas M_thrown M_textSize M_place M_doings M_seen M_seed M_bestSet M_text M_plan M_read M_readPage M_page M_trial M_book M_kept M_isKept M_seenPoint M_seenSum M_seenWas)) C0 hP hD hS [0, 1, 2, 3, 4, 5, 6, 7, 8, 9, 10, 11, 12] rfl (kV (n := 1) (As := [.int p2]) (rest := []) (wc := (WD16 cI cC cZ a_M a_M_text a_M_plan a_M_read a_M_readPage a_M_page a_M_trial a_M_book a_M_kept a_M_isKept a_M_seenPoint a_M_seenSum a_M_seenWas M_thrown M_textSize M_place M_doings M_seen M_seed M_bestSet M_text M_plan M_read M_readPage M_page M_trial M_book M_kept M_isKept M_seenPoint M_seenSum M_seenWas)) (C := RX7) C0 hP hD hS [0, 1, 2, 3, 4, 5, 6, 7, 8, 9, 10, 11, 12] rfl (by decide) (c_X7_noSpot l D cI cC cZ a_M a_M_text a_M_plan a_M_read a_M_readPage a_M_page a_M_trial a_M_book a_M_kept a_M_isKept a_M_seenPoint a_M_seenSum a_M_seenWas H.size M_thrown M_textSize M_place M_doings M_seen M_seed M_bestSet M_text M_plan M_read M_readPage M_page M_trial M_book M_kept M_isKept M_seenPoint M_seenSum M_seenWas p2 r11 hc10) kw_299 kw_296 kw_297 kw_298 kw_5 (by decide +kernel) (by decide) rfl rfl rfl hl.1 rfl (Nat.le_of_ble_eq_true rfl) ⟨Nat.zero_le _, Nat.zero_le _⟩ dX7_does_79) (fun H locs hP hS => ?_)
      refine lv_if_ne (tgt := 103) hx hb dX7_does_82 (by decide) (fun c12 => ?_) (fun c12 => ?_)
      · have h := oc_f c12 h
        refine lv_iconst (v := (0 : Int32)) hx hb dX7_does_103 (by decide) ?_
        cases h
        exact kret_i C0 hP hD hS (by decide) dX7_does_104
      · have h := oc_t c12 h
        refine lv_iload hx hb dX7_does_85 (lv_at hl 0 rfl) ?_
        refine lv_if_ne (tgt := 103) hx hb dX7_does_87 (by decide) (fun c13 => ?_) (fun c13 => ?_)
        · have h := oc_f c13 h
          refine lv_iconst (v := (0 : Int32)) hx hb dX7_does_103 (by decide) ?_
          cases h
          exact kret_i C0 hP hD hS (by decide) dX7_does_104
        · have h := oc_t c13 h
          refine lv_aload_n hx hb dX7_does_90 rfl (lv_at hl 1 rfl) ?_
          refine va_get (D := D) (ci := 7) (v := .ref a_M_trial) (C := RX7) (T := TX7) (N := 19) hx hb hts inlX7 hown hK hP 0 rfl rfl 8 (by decide) (hts _ kw_89) (fun _ h9 => h9) rfl dX7_does_91 ?_
          refine lv_iconst (v := (0 : Int32)) hx hb dX7_does_94 (by decide) ?_
          refine va_iald hx hb hK hP 6 0 rfl rfl (show ¬ ((0 : Int32) < 0 ∨ 9 ≤ Int32.toNatClampNeg (0 : Int32)) by decide) dX7_does_95 ?_
          refine lv_iload_n hx hb dX7_does_96 rfl (lv_at hl 3 rfl) ?_
          obtain ⟨r15, hc14, h⟩ := oc_bind h
          refine kro_i (wc := (WD0 cI cC cZ)) C0 hP hD hS [] rfl (kS (n := 2) (As := [.int (M_trial (Int32.toNatClampNeg (0 : Int32))), .int p2]) (rest := []) (wc := (WD0 cI cC cZ)) C0 hP hD hS [] rfl (by decide) (c_X7_has l D cI cC cZ  H.size  (M_trial (Int32.toNatClampNeg (0 : Int32))) p2 r15 hc14) kw_371 kw_369 kw_370 kw_5 (by decide +kernel) (by decide) rfl hl.1 rfl (Nat.le_of_ble_eq_true rfl) ⟨Nat.zero_le _, Nat.zero_le _⟩ dX7_does_97) (fun H locs hP hS => ?_)
          refine lv_if_ne (tgt := 105) hx hb dX7_does_100 (by decide) (fun c16 => ?_) (fun c16 => ?_)
          · have h := oc_f c16 h
            refine lv_aload_n hx hb dX7_does_105 rfl (lv_at hl 1 rfl) ?_
            refine va_get (D := D) (ci := 7) (v := .ref a_M_trial) (C := RX7) (T := TX7) (N := 19) hx hb hts inlX7 hown hK hP 0 rfl rfl 8 (by decide) (hts _ kw_89) (fun _ h9 => h9) rfl dX7_does_106 ?_
            refine lv_iconst (v := (1 : Int32)) hx hb dX7_does_109 (by decide) ?_
            refine lv_dup2_11 hx hb dX7_does_110 rfl rfl ?_
            refine va_iald hx hb hK hP 6 0 rfl rfl (show ¬ ((1 : Int32) < 0 ∨ 9 ≤ Int32.toNatClampNeg (1 : Int32)) by decide) dX7_does_111 ?_
            refine lv_iconst (v := (1 : Int32)) hx hb dX7_does_112 (by decide) ?_
            refine lv_iload_n hx hb dX7_does_113 rfl (lv_at hl 3 rfl) ?_
            refine lv_ishl hx hb dX7_does_114 ?_
            refine lv_ixor hx hb dX7_does_115 ?_
            refine va_iast hx hb hK hP hD hS 6 0 rfl rfl (show ¬ ((1 : Int32) < 0 ∨ 9 ≤ Int32.toNatClampNeg (1 : Int32)) by decide) dX7_does_116 (fun H locs hP hD hS => ?_)
            have hP : va_P D vwCl (WD16 cI cC cZ a_M a_M_text a_M_plan a_M_read a_M_readPage a_M_page a_M_trial a_M_book a_M_kept a_M_isKept a_M_seenPoint a_M_seenSum a_M_seenWas M_thrown M_textSize M_place M_doings M_seen M_seed M_bestSet M_text M_plan M_read M_readPage M_page (upd M_trial (Int32.toNatClampNeg (1 : Int32)) ((M_trial (Int32.toNatClampNeg (1 : Int32))) ^^^ ((1 : Int32) <<< (p2 &&& 31)))) M_book M_kept M_isKept M_seenPoint M_seenSum M_seenWas) H := hP
            have hD : va_D A (WD16 cI cC cZ a_M a_M_text a_M_plan a_M_read a_M_readPage a_M_page a_M_trial a_M_book a_M_kept a_M_isKept a_M_seenPoint a_M_seenSum a_M_seenWas M_thrown M_textSize M_place M_doings M_seen M_seed M_bestSet M_text M_plan M_read M_readPage M_page (upd M_trial (Int32.toNatClampNeg (1 : Int32)) ((M_trial (Int32.toNatClampNeg (1 : Int32))) ^^^ ((1 : Int32) <<< (p2 &&& 31)))) M_book M_kept M_isKept M_seenPoint M_seenSum M_seenWas) := hD
            refine lv_iconst (v := (1 : Int32)) hx hb dX7_does_117 (by decide) ?_
            cases h
            exact kret_i C0 hP hD hS (by decide) dX7_does_118
          · have h := oc_t c16 h
            refine lv_iconst (v := (0 : Int32)) hx hb dX7_does_103 (by decide) ?_
            cases h
            exact kret_i C0 hP hD hS (by decide) dX7_does_104
    · have h := oc_f c9 h
      by_cases c17 : p1 = (3 : Int32)
      · have h := oc_t c17 h
        refine lv_tableIn (tgt := 119) (off := 109) hx hb dX7_does_10 (by rw [c17]; decide) (by rw [c17]; decide) (by rw [c17]; rfl) (by decide) ?_
        refine lv_iload_n hx hb dX7_does_119 rfl (lv_at hl 3 rfl) ?_
        refine lv_aload_n hx hb dX7_does_120 rfl (lv_at hl 1 rfl) ?_
        obtain ⟨r19, hc18, h⟩ := oc_bind h
        refine kro_i (wc := (WD16 cI cC cZ a_M a_M_text a_M_plan a_M_read a_M_readPage a_M_page a_M_trial a_M_book a_M_kept a_M_isKept a_M_seenPoint a_M_seenSum a_M_seenWas M_thrown M_textSize M_place M_doings M_seen M_seed M_bestSet M_text M_plan M_read M_readPage M_page M_trial M_book M_kept M_isKept M_seenPoint M_seenSum M_seenWas)) C0 hP hD hS [0, 1, 2, 3, 4, 5, 6, 7, 8, 9, 10, 11, 12] rfl (kV (n := 0) (As := []) (rest := [.int p2]) (wc := (WD16 cI cC cZ a_M a_M_text a_M_plan a_M_read a_M_readPage a_M_page a_M_trial a_M_book a_M_kept a_M_isKept a_M_seenPoint a_M_seenSum a_M_seenWas M_thrown M_textSize M_place M_doings M_seen M_seed M_bestSet M_text M_plan M_read M_readPage M_page M_trial M_book M_kept M_isKept M_seenPoint M_seenSum M_seenWas)) (C := RX7) C0 hP hD hS [0, 1, 2, 3, 4, 5, 6, 7, 8, 9, 10, 11, 12] rfl (by decide) (c_X7_walls l D cI cC cZ a_M a_M_text a_M_plan a_M_read a_M_readPage a_M_page a_M_trial a_M_book a_M_kept a_M_isKept a_M_seenPoint a_M_seenSum a_M_seenWas H.size M_thrown M_textSize M_place M_doings M_seen M_seed M_bestSet M_text M_plan M_read M_readPage M_page M_trial M_book M_kept M_isKept M_seenPoint M_seenSum M_seenWas  r19 hc18) kw_276 kw_273 kw_274 kw_275 kw_5 (by decide +kernel) (by decide) rfl rfl rfl hl.1 rfl (Nat.le_of_ble_eq_true rfl) ⟨Nat.zero_le _, Nat.zero_le _⟩ dX7_does_121) (fun H locs hP hS => ?_)
        refine lv_icmp_ge (tgt := 132) hx hb dX7_does_124 (by decide) (fun c20 => ?_) (fun c20 => ?_)
        · have h := oc_t c20 h
          refine lv_iconst (v := (0 : Int32)) hx hb dX7_does_132 (by decide) ?_
          cases h
          exact kret_i C0 hP hD hS (by decide) dX7_does_133
        · have h := oc_f c20 h
          refine lv_iload hx hb dX7_does_127 (lv_at hl 0 rfl) ?_
          refine lv_if_eq (tgt := 134) hx hb dX7_does_129 (by decide) (fun c21 => ?_) (fun c21 => ?_)
          · have h := oc_t c21 h
            refine lv_aload_n hx hb dX7_does_134 rfl (lv_at hl 1 rfl) ?_
            refine va_get (D := D) (ci := 7) (v := .ref a_M_trial) (C := RX7) (T := TX7) (N := 19) hx hb hts inlX7 hown hK hP 0 rfl rfl 8 (by decide) (hts _ kw_89) (fun _ h9 => h9) rfl dX7_does_135 ?_
            refine lv_iconst (v := (2 : Int32)) hx hb dX7_does_138 (by decide) ?_
            refine lv_dup2_11 hx hb dX7_does_139 rfl rfl ?_
            refine va_iald hx hb hK hP 6 0 rfl rfl (show ¬ ((2 : Int32) < 0 ∨ 9 ≤ Int32.toNatClampNeg (2 : Int32)) by decide) dX7_does_140 ?_
            refine lv_iconst (v := (1 : Int32)) hx hb dX7_does_141 (by decide) ?_
            refine lv_iload_n hx hb dX7_does_142 rfl (lv_at hl 3 rfl) ?_
            refine lv_ishl hx hb dX7_does_143 ?_
            refine lv_ixor hx hb dX7_does_144 ?_
            refine va_iast hx hb hK hP hD hS 6 0 rfl rfl (show ¬ ((2 : Int32) < 0 ∨ 9 ≤ Int32.toNatClampNeg (2 : Int32)) by decide) dX7_does_145 (fun H locs hP hD hS => ?_)
            have hP : va_P D vwCl (WD16 cI cC cZ a_M a_M_text a_M_plan a_M_read a_M_readPage a_M_page a_M_trial a_M_book a_M_kept a_M_isKept a_M_seenPoint a_M_seenSum a_M_seenWas M_thrown M_textSize M_place M_doings M_seen M_seed M_bestSet M_text M_plan M_read M_readPage M_page (upd M_trial (Int32.toNatClampNeg (2 : Int32)) ((M_trial (Int32.toNatClampNeg (2 : Int32))) ^^^ ((1 : Int32) <<< (p2 &&& 31)))) M_book M_kept M_isKept M_seenPoint M_seenSum M_seenWas) H := hP
            have hD : va_D A (WD16 cI cC cZ a_M a_M_text a_M_plan a_M_read a_M_readPage a_M_page a_M_trial a_M_book a_M_kept a_M_isKept a_M_seenPoint a_M_seenSum a_M_seenWas M_thrown M_textSize M_place M_doings M_seen M_seed M_bestSet M_text M_plan M_read M_readPage M_page (upd M_trial (Int32.toNatClampNeg (2 : Int32)) ((M_trial (Int32.toNatClampNeg (2 : Int32))) ^^^ ((1 : Int32) <<< (p2 &&& 31)))) M_book M_kept M_isKept M_seenPoint M_seenSum M_seenWas) := hD
            refine lv_iconst (v := (1 : Int32)) hx hb dX7_does_146 (by decide) ?_
            cases h
            exact kret_i C0 hP hD hS (by decide) dX7_does_147
          · have h := oc_f c21 h
            refine lv_iconst (v := (0 : Int32)) hx hb dX7_does_132 (by decide) ?_
            cases h
            exact kret_i C0 hP hD hS (by decide) dX7_does_133
      · have h := oc_f c17 h
        by_cases c22 : p1 = (4 : Int32)
        · have h := oc_t c22 h
          refine lv_tableIn (tgt := 148) (off := 138) hx hb dX7_does_10 (by rw [c22]; decide) (by rw [c22]; decide) (by rw [c22]; rfl) (by decide) ?_
          refine lv_aload_n hx hb dX7_does_148 rfl (lv_at hl 1 rfl) ?_
          refine lv_iload_n hx hb dX7_does_149 rfl (lv_at hl 3 rfl) ?_
          obtain ⟨r24, hc23, h⟩ := oc_bind h
          refine kro_i (wc := (WD16 cI cC cZ a_M a_M_text a_M_plan a_M_read a_M_readPage a_M_page a_M_trial a_M_book a_M_kept a_M_isKept a_M_seenPoint a_M_seenSum a_M_seenWas M_thrown M_textSize M_place M_doings M_seen M_seed M_bestSet M_text M_plan M_read M_readPage M_page M_trial M_book M_kept M_isKept M_seenPoint M_seenSum M_seenWas)) C0 hP hD hS [0, 1, 2, 3, 4, 5, 6, 7, 8, 9, 10, 11, 12] rfl (kV (n := 1) (As := [.int p2]) (rest := []) (wc := (WD16 cI cC cZ a_M a_M_text a_M_plan a_M_read a_M_readPage a_M_page a_M_trial a_M_book a_M_kept a_M_isKept a_M_seenPoint a_M_seenSum a_M_seenWas M_thrown M_textSize M_place M_doings M_seen M_seed M_bestSet M_text M_plan M_read M_readPage M_page M_trial M_book M_kept M_isKept M_seenPoint M_seenSum M_seenWas)) (C := RX7) C0 hP hD hS [0, 1, 2, 3, 4, 5, 6, 7, 8, 9, 10, 11, 12] rfl (by decide) (c_X7_noPoint l D cI cC cZ a_M a_M_text a_M_plan a_M_read a_M_readPage a_M_page a_M_trial a_M_book a_M_kept a_M_isKept a_M_seenPoint a_M_seenSum a_M_seenWas H.size M_thrown M_textSize M_place M_doings M_seen M_seed M_bestSet M_text M_plan M_read M_readPage M_page M_trial M_book M_kept M_isKept M_seenPoint M_seenSum M_seenWas p2 r24 hc23) kw_357 kw_354 kw_355 kw_356 kw_5 (by decide +kernel) (by decide) rfl rfl rfl hl.1 rfl (Nat.le_of_ble_eq_true rfl) ⟨Nat.zero_le _, Nat.zero_le _⟩ dX7_does_150) (fun H locs hP hS => ?_)
          refine lv_if_ne (tgt := 183) hx hb dX7_does_153 (by decide) (fun c25 => ?_) (fun c25 => ?_)
          · have h := oc_f c25 h
            refine lv_iconst (v := (0 : Int32)) hx hb dX7_does_183 (by decide) ?_
            cases h
            exact kret_i C0 hP hD hS (by decide) dX7_does_184
          · have h := oc_t c25 h
            refine lv_aload_n hx hb dX7_does_156 rfl (lv_at hl 1 rfl) ?_
            refine lv_iload_n hx hb dX7_does_157 rfl (lv_at hl 3 rfl) ?_
            refine lv_aload_n hx hb dX7_does_158 rfl (lv_at hl 1 rfl) ?_
            refine va_get (D := D) (ci := 7) (v := .ref a_M_trial) (C := RX7) (T := TX7) (N := 19) hx hb hts inlX7 hown hK hP 0 rfl rfl 8 (by decide) (hts _ kw_89) (fun _ h9 => h9) rfl dX7_does_159 ?_
            obtain ⟨r27, hc26, h⟩ := oc_bind h
            refine kro_i (wc := (WD17 cI cC cZ a_M_trial M_trial)) C0 hP hD hS [6] rfl (kS (n := 1) (As := [.ref a_M_trial]) (rest := [.int p2, .ref a_M]) (wc := (WD17 cI cC cZ a_M_trial M_trial)) C0 hP hD hS [6] rfl (by decide) (c_X7_live l D cI cC cZ a_M_trial H.size M_trial  r27 hc26) kw_364 kw_362 kw_363 kw_5 (by decide +kernel) (by decide) rfl hl.1 rfl (Nat.le_of_ble_eq_true rfl) ⟨Nat.zero_le _, Nat.zero_le _⟩ dX7_does_162) (fun H locs hP hS => ?_)
            refine lv_aload_n hx hb dX7_does_165 rfl (lv_at hl 1 rfl) ?_
            refine va_get (D := D) (ci := 7) (v := .ref a_M_trial) (C := RX7) (T := TX7) (N := 19) hx hb hts inlX7 hown hK hP 0 rfl rfl 8 (by decide) (hts _ kw_89) (fun _ h9 => h9) rfl dX7_does_166 ?_
            refine lv_iconst (v := (2 : Int32)) hx hb dX7_does_169 (by decide) ?_
            refine va_iald hx hb hK hP 6 0 rfl rfl (show ¬ ((2 : Int32) < 0 ∨ 9 ≤ Int32.toNatClampNeg (2 : Int32)) by decide) dX7_does_170 ?_
            obtain ⟨r29, hc28, h⟩ := oc_bind h
            refine kro_i (wc := (WD16 cI cC cZ a_M a_M_text a_M_plan a_M_read a_M_readPage a_M_page a_M_trial a_M_book a_M_kept a_M_isKept a_M_seenPoint a_M_seenSum a_M_seenWas M_thrown M_textSize M_place M_doings M_seen M_seed M_bestSet M_text M_plan M_read M_readPage M_page M_trial M_book M_kept M_isKept M_seenPoint M_seenSum M_seenWas)) C0 hP hD hS [0, 1, 2, 3, 4, 5, 6, 7, 8, 9, 10, 11, 12] rfl (kV (n := 3) (As := [.int p2, .int r27, .int (M_trial (Int32.toNatClampNeg (2 : Int32)))]) (rest := []) (wc := (WD16 cI cC cZ a_M a_M_text a_M_plan a_M_read a_M_readPage a_M_page a_M_trial a_M_book a_M_kept a_M_isKept a_M_seenPoint a_M_seenSum a_M_seenWas M_thrown M_textSize M_place M_doings M_seen M_seed M_bestSet M_text M_plan M_read M_readPage M_page M_trial M_book M_kept M_isKept M_seenPoint M_seenSum M_seenWas)) (C := RX7) C0 hP hD hS [0, 1, 2, 3, 4, 5, 6, 7, 8, 9, 10, 11, 12] rfl (by decide) (c_X7_sumBy l D cI cC cZ a_M a_M_text a_M_plan a_M_read a_M_readPage a_M_page a_M_trial a_M_book a_M_kept a_M_isKept a_M_seenPoint a_M_seenSum a_M_seenWas H.size M_thrown M_textSize M_place M_doings M_seen M_seed M_bestSet M_text M_plan M_read M_readPage M_page M_trial M_book M_kept M_isKept M_seenPoint M_seenSum M_seenWas p2 r27 (M_trial (Int32.toNatClampNeg (2 : Int32))) r29 hc28) kw_368 kw_365 kw_366 kw_367 kw_5 (by decide +kernel) (by decide) rfl rfl rfl hl.1 rfl (Nat.le_of_ble_eq_true rfl) ⟨Nat.zero_le _, Nat.zero_le _⟩ dX7_does_171) (fun H locs hP hS => ?_)
            refine lv_iload hx hb dX7_does_174 (lv_at hl 0 rfl) ?_
            refine lv_icmp_lt (tgt := 183) hx hb dX7_does_176 (by decide) (fun c30 => ?_) (fun c30 => ?_)
            · have h := oc_t c30 h
              refine lv_iconst (v := (0 : Int32)) hx hb dX7_does_183 (by decide) ?_
              cases h
              exact kret_i C0 hP hD hS (by decide) dX7_does_184
            · have h := oc_f c30 h
              refine lv_iconst (v := (1 : Int32)) hx hb dX7_does_179 (by decide) ?_
              refine lv_goto (tgt := 184) hx hb dX7_does_180 (by decide) ?_
              cases h
              exact kret_i C0 hP hD hS (by decide) dX7_does_184
        · have h := oc_f c22 h
          by_cases c31 : p1 = (5 : Int32)
          · have h := oc_t c31 h
            refine lv_tableIn (tgt := 185) (off := 175) hx hb dX7_does_10 (by rw [c31]; decide) (by rw [c31]; decide) (by rw [c31]; rfl) (by decide) ?_
            refine lv_aload_n hx hb dX7_does_185 rfl (lv_at hl 1 rfl) ?_
            refine lv_iload_n hx hb dX7_does_186 rfl (lv_at hl 3 rfl) ?_
            obtain ⟨r33, hc32, h⟩ := oc_bind h
            refine kro_i (wc := (WD16 cI cC cZ a_M a_M_text a_M_plan a_M_read a_M_readPage a_M_page a_M_trial a_M_book a_M_kept a_M_isKept a_M_seenPoint a_M_seenSum a_M_seenWas M_thrown M_textSize M_place M_doings M_seen M_seed M_bestSet M_text M_plan M_read M_readPage M_page M_trial M_book M_kept M_isKept M_seenPoint M_seenSum M_seenWas)) C0 hP hD hS [0, 1, 2, 3, 4, 5, 6, 7, 8, 9, 10, 11, 12] rfl (kV (n := 1) (As := [.int p2]) (rest := []) (wc := (WD16 cI cC cZ a_M a_M_text a_M_plan a_M_read a_M_readPage a_M_page a_M_trial a_M_book a_M_kept a_M_isKept a_M_seenPoint a_M_seenSum a_M_seenWas M_thrown M_textSize M_place M_doings M_seen M_seed M_bestSet M_text M_plan M_read M_readPage M_page M_trial M_book M_kept M_isKept M_seenPoint M_seenSum M_seenWas)) (C := RX7) C0 hP hD hS [0, 1, 2, 3, 4, 5, 6, 7, 8, 9, 10, 11, 12] rfl (by decide) (c_X7_noPoint l D cI cC cZ a_M a_M_text a_M_plan a_M_read a_M_readPage a_M_page a_M_trial a_M_book a_M_kept a_M_isKept a_M_seenPoint a_M_seenSum a_M_seenWas H.size M_thrown M_textSize M_place M_doings M_seen M_seed M_bestSet M_text M_plan M_read M_readPage M_page M_trial M_book M_kept M_isKept M_seenPoint M_seenSum M_seenWas p2 r33 hc32) kw_357 kw_354 kw_355 kw_356 kw_5 (by decide +kernel) (by decide) rfl rfl rfl hl.1 rfl (Nat.le_of_ble_eq_true rfl) ⟨Nat.zero_le _, Nat.zero_le _⟩ dX7_does_187) (fun H locs hP hS => ?_)
            refine lv_if_ne (tgt := 245) hx hb dX7_does_190 (by decide) (fun c34 => ?_) (fun c34 => ?_)
            · have h := oc_f c34 h
              refine lv_iconst (v := (0 : Int32)) hx hb dX7_does_245 (by decide) ?_
              cases h
              exact kret_i C0 hP hD hS (by decide) dX7_does_246
            · have h := oc_t c34 h
              refine lv_iload_n hx hb dX7_does_193 rfl (lv_at hl 4 rfl) ?_
              refine lv_iconst (v := (2 : Int32)) hx hb dX7_does_194 (by decide) ?_
              refine lv_icmp_ge (tgt := 245) hx hb dX7_does_195 (by decide) (fun c35 => ?_) (fun c35 => ?_)
              · have h := oc_t c35 h
                refine lv_iconst (v := (0 : Int32)) hx hb dX7_does_245 (by decide) ?_
                cases h
                exact kret_i C0 hP hD hS (by decide) dX7_does_246
              · have h := oc_f c35 h
                refine lv_iload hx hb dX7_does_198 (lv_at hl 5 rfl) ?_
                refine lv_if_ne (tgt := 245) hx hb dX7_does_200 (by decide) (fun c36 => ?_) (fun c36 => ?_)
                · have h := oc_f c36 h
                  refine lv_iconst (v := (0 : Int32)) hx hb dX7_does_245 (by decide) ?_
                  cases h
                  exact kret_i C0 hP hD hS (by decide) dX7_does_246
                · have h := oc_t c36 h
                  refine lv_aload_n hx hb dX7_does_203 rfl (lv_at hl 1 rfl) ?_
                  refine lv_aload_n hx hb dX7_does_204 rfl (lv_at hl 1 rfl) ?_
                  refine va_get (D := D) (ci := 7) (v := .ref a_M_trial) (C := RX7) (T := TX7) (N := 19) hx hb hts inlX7 hown hK hP 0 rfl rfl 8 (by decide) (hts _ kw_89) (fun _ h9 => h9) rfl dX7_does_205 ?_
                  refine lv_aload_n hx hb dX7_does_208 rfl (lv_at hl 1 rfl) ?_
                  refine va_get (D := D) (ci := 7) (v := .ref a_M_trial) (C := RX7) (T := TX7) (N := 19) hx hb hts inlX7 hown hK hP 0 rfl rfl 8 (by decide) (hts _ kw_89) (fun _ h9 => h9) rfl dX7_does_209 ?_
                  obtain ⟨r38, hc37, h⟩ := oc_bind h
                  refine kro_i (wc := (WD17 cI cC cZ a_M_trial M_trial)) C0 hP hD hS [6] rfl (kS (n := 1) (As := [.ref a_M_trial]) (rest := [.ref a_M_trial, .ref a_M]) (wc := (WD17 cI cC cZ a_M_trial M_trial)) C0 hP hD hS [6] rfl (by decide) (c_X7_live l D cI cC cZ a_M_trial H.size M_trial  r38 hc37) kw_364 kw_362 kw_363 kw_5 (by decide +kernel) (by decide) rfl hl.1 rfl (Nat.le_of_ble_eq_true rfl) ⟨Nat.zero_le _, Nat.zero_le _⟩ dX7_does_212) (fun H locs hP hS => ?_)
                  refine lv_aload_n hx hb dX7_does_215 rfl (lv_at hl 1 rfl) ?_
                  refine va_get (D := D) (ci := 7) (v := .ref a_M_trial) (C := RX7) (T := TX7) (N := 19) hx hb hts inlX7 hown hK hP 0 rfl rfl 8 (by decide) (hts _ kw_89) (fun _ h9 => h9) rfl dX7_does_216 ?_
                  refine lv_iconst (v := (2 : Int32)) hx hb dX7_does_219 (by decide) ?_
                  refine va_iald hx hb hK hP 6 0 rfl rfl (show ¬ ((2 : Int32) < 0 ∨ 9 ≤ Int32.toNatClampNeg (2 : Int32)) by decide) dX7_does_220 ?_
                  obtain ⟨r40, hc39, h⟩ := oc_bind h
                  refine kro_i (wc := (WD16 cI cC cZ a_M a_M_text a_M_plan a_M_read a_M_readPage a_M_page a_M_trial a_M_book a_M_kept a_M_isKept a_M_seenPoint a_M_seenSum a_M_seenWas M_thrown M_textSize M_place M_doings M_seen M_seed M_bestSet M_text M_plan M_read M_readPage M_page M_trial M_book M_kept M_isKept M_seenPoint M_seenSum M_seenWas)) C0 hP hD hS [0, 1, 2, 3, 4, 5, 6, 7, 8, 9, 10, 11, 12] rfl (kV (n := 3) (As := [.ref a_M_trial, .int r38, .int (M_trial (Int32.toNatClampNeg (2 : Int32)))]) (rest := []) (wc := (WD16 cI cC cZ a_M a_M_text a_M_plan a_M_read a_M_readPage a_M_page a_M_trial a_M_book a_M_kept a_M_isKept a_M_seenPoint a_M_seenSum a_M_seenWas M_thrown M_textSize M_place M_doings M_seen M_seed M_bestSet M_text M_plan M_read M_readPage M_page M_trial M_book M_kept M_isKept M_seenPoint M_seenSum M_seenWas)) (C := RX7) C0 hP hD hS [0, 1, 2, 3, 4, 5, 6, 7, 8, 9, 10, 11, 12] rfl (by decide) (c_X7_servedBy_trial l D cI cC cZ a_M a_M_text a_M_plan a_M_read a_M_readPage a_M_page a_M_trial a_M_book a_M_kept a_M_isKept a_M_seenPoint a_M_seenSum a_M_seenWas H.size M_thrown M_textSize M_place M_doings M_seen M_seed M_bestSet M_text M_plan M_read M_readPage M_page M_trial M_book M_kept M_isKept M_seenPoint M_seenSum M_seenWas r38 (M_trial (Int32.toNatClampNeg (2 : Int32))) r40 hc39) kw_553 kw_550 kw_551 kw_552 kw_5 (by decide +kernel) (by decide) rfl rfl rfl hl.1 rfl (Nat.le_of_ble_eq_true rfl) ⟨Nat.zero_le _, Nat.zero_le _⟩ dX7_does_221) (fun H locs hP hS => ?_)
                  refine lv_iload_n hx hb dX7_does_224 rfl (lv_at hl 3 rfl) ?_
                  obtain ⟨r42, hc41, h⟩ := oc_bind h
                  refine kro_i (wc := (WD0 cI cC cZ)) C0 hP hD hS [] rfl (kS (n := 2) (As := [.int r40, .int p2]) (rest := []) (wc := (WD0 cI cC cZ)) C0 hP hD hS [] rfl (by decide) (c_X7_has l D cI cC cZ  H.size  r40 p2 r42 hc41) kw_371 kw_369 kw_370 kw_5 (by decide +kernel) (by decide) rfl hl.1 rfl (Nat.le_of_ble_eq_true rfl) ⟨Nat.zero_le _, Nat.zero_le _⟩ dX7_does_225) (fun H locs hP hS => ?_)
                  refine lv_iload_n hx hb dX7_does_228 rfl (lv_at hl 4 rfl) ?_
                  refine lv_iconst (v := (1 : Int32)) hx hb dX7_does_229 (by decide) ?_
                  refine lv_icmp_ne (tgt := 237) hx hb dX7_does_230 (by decide) (fun c43 => ?_) (fun c43 => ?_)
                  · have h := oc_f c43 h
                    refine lv_iconst (v := (0 : Int32)) hx hb dX7_does_237 (by decide) ?_
                    exact wk_X7_does_238 C0  h hP hD hS (lv_sub hl [] rfl)
                  · have h := oc_t c43 h
                    refine lv_iconst (v := (1 : Int32)) hx hb dX7_does_233 (by decide) ?_
                    refine lv_goto (tgt := 238) hx hb dX7_does_234 (by decide) ?_
                    exact wk_X7_does_238 C0  h hP hD hS (lv_sub hl [] rfl)
          · have h := oc_f c31 h
            by_cases c44 : p1 = (6 : Int32)
            · have h := oc_t c44 h
              refine lv_tableIn (tgt := 247) (off := 237) hx hb dX7_does_10 (by rw [c44]; decide) (by rw [c44]; decide) (by rw [c44]; rfl) (by decide) ?_
              refine lv_aload_n hx hb dX7_does_247 rfl (lv_at hl 1 rfl) ?_
              refine lv_iload_n hx hb dX7_does_248 rfl (lv_at hl 3 rfl) ?_
              obtain ⟨r46, hc45, h⟩ := oc_bind h
              refine kro_i (wc := (WD16 cI cC cZ a_M a_M_text a_M_plan a_M_read a_M_readPage a_M_page a_M_trial a_M_book a_M_kept a_M_isKept a_M_seenPoint a_M_seenSum a_M_seenWas M_thrown M_textSize M_place M_doings M_seen M_seed M_bestSet M_text M_plan M_read M_readPage M_page M_trial M_book M_kept M_isKept M_seenPoint M_seenSum M_seenWas)) C0 hP hD hS [0, 1, 2, 3, 4, 5, 6, 7, 8, 9, 10, 11, 12] rfl (kV (n := 1) (As := [.int p2]) (rest := []) (wc := (WD16 cI cC cZ a_M a_M_text a_M_plan a_M_read a_M_readPage a_M_page a_M_trial a_M_book a_M_kept a_M_isKept a_M_seenPoint a_M_seenSum a_M_seenWas M_thrown M_textSize M_place M_doings M_seen M_seed M_bestSet M_text M_plan M_read M_readPage M_page M_trial M_book M_kept M_isKept M_seenPoint M_seenSum M_seenWas)) (C := RX7) C0 hP hD hS [0, 1, 2, 3, 4, 5, 6, 7, 8, 9, 10, 11, 12] rfl (by decide) (c_X7_noPoint l D cI cC cZ a_M a_M_text a_M_plan a_M_read a_M_readPage a_M_page a_M_trial a_M_book a_M_kept a_M_isKept a_M_seenPoint a_M_seenSum a_M_seenWas H.size M_thrown M_textSize M_place M_doings M_seen M_seed M_bestSet M_text M_plan M_read M_readPage M_page M_trial M_book M_kept M_isKept M_seenPoint M_seenSum M_seenWas p2 r46 hc45) kw_357 kw_354 kw_355 kw_356 kw_5 (by decide +kernel) (by decide) rfl rfl rfl hl.1 rfl (Nat.le_of_ble_eq_true rfl) ⟨Nat.zero_le _, Nat.zero_le _⟩ dX7_does_249) (fun H locs hP hS => ?_)
              refine lv_if_eq (tgt := 257) hx hb dX7_does_252 (by decide) (fun c47 => ?_) (fun c47 => ?_)
              · have h := oc_t c47 h
                refine lv_aload_n hx hb dX7_does_257 rfl (lv_at hl 1 rfl) ?_
                refine va_get (D := D) (ci := 7) (v := .ref a_M_trial) (C := RX7) (T := TX7) (N := 19) hx hb hts inlX7 hown hK hP 0 rfl rfl 8 (by decide) (hts _ kw_89) (fun _ h9 => h9) rfl dX7_does_258 ?_
                refine lv_iconst (v := (3 : Int32)) hx hb dX7_does_261 (by decide) ?_
                refine lv_iload_n hx hb dX7_does_262 rfl (lv_at hl 3 rfl) ?_
                refine lv_iadd hx hb dX7_does_263 ?_
                refine lv_iload hx hb dX7_does_264 (lv_at hl 0 rfl) ?_
                obtain ⟨hb48, h⟩ := oc_else h
                refine va_iast hx hb hK hP hD hS 6 0 rfl rfl hb48 dX7_does_266 (fun H locs hP hD hS => ?_)
                have hP : va_P D vwCl (WD16 cI cC cZ a_M a_M_text a_M_plan a_M_read a_M_readPage a_M_page a_M_trial a_M_book a_M_kept a_M_isKept a_M_seenPoint a_M_seenSum a_M_seenWas M_thrown M_textSize M_place M_doings M_seen M_seed M_bestSet M_text M_plan M_read M_readPage M_page (upd M_trial (Int32.toNatClampNeg ((3 : Int32) + p2)) t1) M_book M_kept M_isKept M_seenPoint M_seenSum M_seenWas) H := hP
                have hD : va_D A (WD16 cI cC cZ a_M a_M_text a_M_plan a_M_read a_M_readPage a_M_page a_M_trial a_M_book a_M_kept a_M_isKept a_M_seenPoint a_M_seenSum a_M_seenWas M_thrown M_textSize M_place M_doings M_seen M_seed M_bestSet M_text M_plan M_read M_readPage M_page (upd M_trial (Int32.toNatClampNeg ((3 : Int32) + p2)) t1) M_book M_kept M_isKept M_seenPoint M_seenSum M_seenWas) := hD
                refine lv_iconst (v := (1 : Int32)) hx hb dX7_does_267 (by decide) ?_
                cases h
                exact kret_i C0 hP hD hS (by decide) dX7_does_268
              · have h := oc_f c47 h
                refine lv_iconst (v := (0 : Int32)) hx hb dX7_does_255 (by decide) ?_
                cases h
                exact kret_i C0 hP hD hS (by decide) dX7_does_256
            · have h := oc_f c44 h
              by_cases c49 : p1 = (7 : Int32)
              · have h := oc_t c49 h
                refine lv_tableIn (tgt := 269) (off := 259) hx hb dX7_does_10 (by rw [c49]; decide) (by rw [c49]; decide) (by rw [c49]; rfl) (by decide) ?_
                refine lv_aload_n hx hb dX7_does_269 rfl (lv_at hl 1 rfl) ?_
                refine lv_iload_n hx hb dX7_does_270 rfl (lv_at hl 3 rfl) ?_
                obtain ⟨r51, hc50, h⟩ := oc_bind h
                refine kro_i (wc := (WD16 cI cC cZ a_M a_M_text a_M_plan a_M_read a_M_readPage a_M_page a_M_trial a_M_book a_M_kept a_M_isKept a_M_seenPoint a_M_seenSum a_M_seenWas M_thrown M_textSize M_place M_doings M_seen M_seed M_bestSet M_text M_plan M_read M_readPage M_page M_trial M_book M_kept M_isKept M_seenPoint M_seenSum M_seenWas)) C0 hP hD hS [0, 1, 2, 3, 4, 5, 6, 7, 8, 9, 10, 11, 12] rfl (kV (n := 1) (As := [.int p2]) (rest := []) (wc := (WD16 cI cC cZ a_M a_M_text a_M_plan a_M_read a_M_readPage a_M_page a_M_trial a_M_book a_M_kept a_M_isKept a_M_seenPoint a_M_seenSum a_M_seenWas M_thrown M_textSize M_place M_doings M_seen M_seed M_bestSet M_text M_plan M_read M_readPage M_page M_trial M_book M_kept M_isKept M_seenPoint M_seenSum M_seenWas)) (C := RX7) C0 hP hD hS [0, 1, 2, 3, 4, 5, 6, 7, 8, 9, 10, 11, 12] rfl (by decide) (c_X7_noSpot l D cI cC cZ a_M a_M_text a_M_plan a_M_read a_M_readPage a_M_page a_M_trial a_M_book a_M_kept a_M_isKept a_M_seenPoint a_M_seenSum a_M_seenWas H.size M_thrown M_textSize M_place M_doings M_seen M_seed M_bestSet M_text M_plan M_read M_readPage M_page M_trial M_book M_kept M_isKept M_seenPoint M_seenSum M_seenWas p2 r51 hc50) kw_299 kw_296 kw_297 kw_298 kw_5 (by decide +kernel) (by decide) rfl rfl rfl hl.1 rfl (Nat.le_of_ble_eq_true rfl) ⟨Nat.zero_le _, Nat.zero_le _⟩ dX7_does_271) (fun H locs hP hS => ?_)
                refine lv_if_ne (tgt := 331) hx hb dX7_does_274 (by decide) (fun c52 => ?_) (fun c52 => ?_)
                · have h := oc_f c52 h
                  refine lv_iconst (v := (0 : Int32)) hx hb dX7_does_331 (by decide) ?_
                  cases h
                  exact kret_i C0 hP hD hS (by decide) dX7_does_332
                · have h := oc_t c52 h
                  refine lv_aload_n hx hb dX7_does_277 rfl (lv_at hl 1 rfl) ?_
                  refine lv_iload_n hx hb dX7_does_278 rfl (lv_at hl 4 rfl) ?_
                  obtain ⟨r54, hc53, h⟩ := oc_bind h
                  refine kro_i (wc := (WD16 cI cC cZ a_M a_M_text a_M_plan a_M_read a_M_readPage a_M_page a_M_trial a_M_book a_M_kept a_M_isKept a_M_seenPoint a_M_seenSum a_M_seenWas M_thrown M_textSize M_place M_doings M_seen M_seed M_bestSet M_text M_plan M_read M_readPage M_page M_trial M_book M_kept M_isKept M_seenPoint M_seenSum M_seenWas)) C0 hP hD hS [0, 1, 2, 3, 4, 5, 6, 7, 8, 9, 10, 11, 12] rfl (kV (n := 1) (As := [.int p3]) (rest := []) (wc := (WD16 cI cC cZ a_M a_M_text a_M_plan a_M_read a_M_readPage a_M_page a_M_trial a_M_book a_M_kept a_M_isKept a_M_seenPoint a_M_seenSum a_M_seenWas M_thrown M_textSize M_place M_doings M_seen M_seed M_bestSet M_text M_plan M_read M_readPage M_page M_trial M_book M_kept M_isKept M_seenPoint M_seenSum M_seenWas)) (C := RX7) C0 hP hD hS [0, 1, 2, 3, 4, 5, 6, 7, 8, 9, 10, 11, 12] rfl (by decide) (c_X7_noPoint l D cI cC cZ a_M a_M_text a_M_plan a_M_read a_M_readPage a_M_page a_M_trial a_M_book a_M_kept a_M_isKept a_M_seenPoint a_M_seenSum a_M_seenWas H.size M_thrown M_textSize M_place M_doings M_seen M_seed M_bestSet M_text M_plan M_read M_readPage M_page M_trial M_book M_kept M_isKept M_seenPoint M_seenSum M_seenWas p3 r54 hc53) kw_357 kw_354 kw_355 kw_356 kw_5 (by decide +kernel) (by decide) rfl rfl rfl hl.1 rfl (Nat.le_of_ble_eq_true rfl) ⟨Nat.zero_le _, Nat.zero_le _⟩ dX7_does_279) (fun H locs hP hS => ?_)
                  refine lv_if_ne (tgt := 331) hx hb dX7_does_282 (by decide) (fun c55 => ?_) (fun c55 => ?_)
                  · have h := oc_f c55 h
                    refine lv_iconst (v := (0 : Int32)) hx hb dX7_does_331 (by decide) ?_
                    cases h
                    exact kret_i C0 hP hD hS (by decide) dX7_does_332
                  · have h := oc_t c55 h
                    refine lv_iload hx hb dX7_does_285 (lv_at hl 5 rfl) ?_
                    refine lv_iconst (v := (2 : Int32)) hx hb dX7_does_287 (by decide) ?_
                    refine lv_icmp_ge (tgt := 331) hx hb dX7_does_288 (by decide) (fun c56 => ?_) (fun c56 => ?_)
                    · have h := oc_t c56 h
                      refine lv_iconst (v := (0 : Int32)) hx hb dX7_does_331 (by decide) ?_
                      cases h
                      exact kret_i C0 hP hD hS (by decide) dX7_does_332
                    · have h := oc_f c56 h
                      refine lv_aload_n hx hb dX7_does_291 rfl (lv_at hl 1 rfl) ?_
                      refine lv_iload_n hx hb dX7_does_292 rfl (lv_at hl 3 rfl) ?_
                      refine lv_iload_n hx hb dX7_does_293 rfl (lv_at hl 4 rfl) ?_
                      refine lv_aload_n hx hb dX7_does_294 rfl (lv_at hl 1 rfl) ?_
                      refine va_get (D := D) (ci := 7) (v := .ref a_M_trial) (C := RX7) (T := TX7) (N := 19) hx hb hts inlX7 hown hK hP 0 rfl rfl 8 (by decide) (hts _ kw_89) (fun _ h9 => h9) rfl dX7_does_295 ?_
                      refine lv_iconst (v := (2 : Int32)) hx hb dX7_does_298 (by decide) ?_
                      refine va_iald hx hb hK hP 6 0 rfl rfl (show ¬ ((2 : Int32) < 0 ∨ 9 ≤ Int32.toNatClampNeg (2 : Int32)) by decide) dX7_does_299 ?_
                      obtain ⟨r58, hc57, h⟩ := oc_bind h
                      refine kro_i (wc := (WD16 cI cC cZ a_M a_M_text a_M_plan a_M_read a_M_readPage a_M_page a_M_trial a_M_book a_M_kept a_M_isKept a_M_seenPoint a_M_seenSum a_M_seenWas M_thrown M_textSize M_place M_doings M_seen M_seed M_bestSet M_text M_plan M_read M_readPage M_page M_trial M_book M_kept M_isKept M_seenPoint M_seenSum M_seenWas)) C0 hP hD hS [0, 1, 2, 3, 4, 5, 6, 7, 8, 9, 10, 11, 12] rfl (kV (n := 3) (As := [.int p2, .int p3, .int (M_trial (Int32.toNatClampNeg (2 : Int32)))]) (rest := []) (wc := (WD16 cI cC cZ a_M a_M_text a_M_plan a_M_read a_M_readPage a_M_page a_M_trial a_M_book a_M_kept a_M_isKept a_M_seenPoint a_M_seenSum a_M_seenWas M_thrown M_textSize M_place M_doings M_seen M_seed M_bestSet M_text M_plan M_read M_readPage M_page M_trial M_book M_kept M_isKept M_seenPoint M_seenSum M_seenWas)) (C := RX7) C0 hP hD hS [0, 1, 2, 3, 4, 5, 6, 7, 8, 9, 10, 11, 12] rfl (by decide) (c_X7_shadeBy l D cI cC cZ a_M a_M_text a_M_plan a_M_read a_M_readPage a_M_page a_M_trial a_M_book a_M_kept a_M_isKept a_M_seenPoint a_M_seenSum a_M_seenWas H.size M_thrown M_textSize M_place M_doings M_seen M_seed M_bestSet M_text M_plan M_read M_readPage M_page M_trial M_book M_kept M_isKept M_seenPoint M_seenSum M_seenWas p2 p3 (M_trial (Int32.toNatClampNeg (2 : Int32))) r58 hc57) kw_379 kw_376 kw_377 kw_378 kw_5 (by decide +kernel) (by decide) rfl rfl rfl hl.1 rfl (Nat.le_of_ble_eq_true rfl) ⟨Nat.zero_le _, Nat.zero_le _⟩ dX7_does_300) (fun H locs hP hS => ?_)
                      refine lv_bipush (v := (-9 : Int32)) hx hb dX7_does_303 (by decide) ?_
                      refine lv_icmp_eq (tgt := 312) hx hb dX7_does_305 (by decide) (fun c59 => ?_) (fun c59 => ?_)
                      · have h := oc_t c59 h
                        refine lv_iconst (v := (0 : Int32)) hx hb dX7_does_312 (by decide) ?_
                        exact wk_X7_does_313 C0  h hP hD hS (lv_sub hl [5] rfl)
                      · have h := oc_f c59 h
                        refine lv_iconst (v := (1 : Int32)) hx hb dX7_does_308 (by decide) ?_
                        refine lv_goto (tgt := 313) hx hb dX7_does_309 (by decide) ?_
                        exact wk_X7_does_313 C0  h hP hD hS (lv_sub hl [5] rfl)
              · have h := oc_f c49 h
                refine lv_tableOut (tgt := 333) hx hb dX7_does_10 (by have n0 := lv_neT c2 (a := 1) (by decide); have n1 := lv_neT c9 (a := 2) (by decide); have n2 := lv_neT c17 (a := 3) (by decide); have n3 := lv_neT c22 (a := 4) (by decide); have n4 := lv_neT c31 (a := 5) (by decide); have n5 := lv_neT c44 (a := 6) (by decide); have n6 := lv_neT c49 (a := 7) (by decide); omega) (by decide) ?_
                refine lv_iconst (v := (0 : Int32)) hx hb dX7_does_333 (by decide) ?_
                cases h
                exact kret_i C0 hP hD hS (by decide) dX7_does_334
abbrev rm_X7_longPower : Room := { frames := 0, cells := 0, slots := 0, locals := 0 }
noncomputable def bk_X7_longPower_5 (k5 : Int64 → Int32 → Option (Int64)) (p0 : Int64) (p2 : Int32) (p3 : Int64) (p5 : Int32) : Option (Int64) := if p2 ≤ p5 then (some p3) else (nm_ (p3 * p0) (fun t2 => nm_ (p5 + (1 : Int32)) (fun t3 => k5 t2 t3)))
set_option maxHeartbeats 4000000 in
set_option maxRecDepth 100000 in
theorem wk_X7_longPower_5 {p : Program} {l : Launch} {e : Env} {s : State} {m : MethodId} {args : Array Value} {below : List Frame} {meth : Method} {c : Code} {D : va_G} {cI cC cZ : ClassId} {A : Nat → Prop} {p0 : Int64} {p2 : Int32} {p3 : Int64} {p5 : Int32} {k5 : Int64 → Int32 → Option (Int64)} {rr : Int64} (C0 : kC p s m args meth c D (kTY cI cC cZ) cX7_longPower (some .long) 6 RX7 A) (hk5 : ∀ (p3_k : Int64) (p5_k : Int32), k5 p3_k p5_k = some rr → ∀ (H : Heap) (locs : List Loc), va_P D vwCl (WD0 cI cC cZ) H → va_D A (WD0 cI cC cZ) → va_S A s.heap H locs → ∀ ls : Array Slot, lv_has ls 6 [(0, .long p0), (2, .int p2), (3, .long p3_k), (5, .int p5_k)] → W p l e rm_X7_longPower s m args below meth c H locs 0 0 (MQ below (kQL D (kTY cI cC cZ) A rr (WD0 cI cC cZ)) args s 0 0 A) (F0 m 5 ls [])) (h : bk_X7_longPower_5 k5 p0 p2 p3 p5 = some rr) {H : Heap} {locs : List Loc} (hP : va_P D vwCl (WD0 cI cC cZ) H) (hD : va_D A (WD0 cI cC cZ)) (hS : va_S A s.heap H locs) {ls : Array Slot} (hl : lv_has ls 6 [(0, .long p0), (2, .int p2), (3, .long p3), (5, .int p5)]) : W p l e rm_X7_longPower s m args below meth c H locs 0 0 (MQ below (kQL D (kTY cI cC cZ) A rr (WD0 cI cC cZ)) args s 0 0 A) (F0 m 5 ls []) := by
  obtain ⟨hx, hb, hr, hml, hown, hts, hK, hN, hA, hlocks, hF⟩ := id C0
  unfold bk_X7_longPower_5 at h
  refine lv_iload hx hb dX7_longPower_5 (lv_at hl 3 rfl) ?_
  refine lv_iload_n hx hb dX7_longPower_7 rfl (lv_at hl 1 rfl) ?_
  refine lv_icmp_ge (tgt := 21) hx hb dX7_longPower_8 (by decide) (fun c1 => ?_) (fun c1 => ?_)
  · have h := oc_t c1 h
    refine lv_lload_n hx hb dX7_longPower_21 rfl (lv_at hl 2 rfl) ?_
    cases h
    exact kret_l C0 hP hD hS dX7_longPower_22
  · have h := oc_f c1 h
    refine lv_lload_n hx hb dX7_longPower_11 rfl (lv_at hl 2 rfl) ?_
    refine lv_lload_n hx hb dX7_longPower_12 rfl (lv_at hl 0 rfl) ?_
    refine lv_lmul hx hb dX7_longPower_13 ?_
    refine lv_topl (fun t2 e_t2 => ?_)
    have h := oc_nm e_t2 h
    refine lv_lstore_n (lv' := [(3, .long t2), (0, .long p0), (2, .int p2), (5, .int p5)]) hx hb dX7_longPower_14 rfl hl (by decide) rfl (fun ls hl => ?_)
    obtain ⟨t3, e_t3⟩ : ∃ y : Int32, y = p5 + (1 : Int32) := ⟨_, rfl⟩
    have h := oc_nm e_t3 h
    refine lv_iinc (v := t3) (lv' := [(5, .int t3), (3, .long t2), (0, .long p0), (2, .int p2)]) hx hb dX7_longPower_15 hl (k := 3) rfl (by rw [e_t3]; rfl) (by decide) rfl (fun ls hl => ?_)
    refine lv_goto (tgt := 5) hx hb dX7_longPower_18 (by decide) ?_
    exact hk5 _ _ h _ _ hP hD hS _ (lv_sub hl [2, 3, 1, 0] rfl)
noncomputable def lp_X7_longPower_5  (p0 : Int64) (p2 : Int32) (n : Nat) : Int64 → Int32 → Option (Int64) := Nat.rec (motive := fun _ => Int64 → Int32 → Option (Int64)) (fun _ _ => none) (fun _ ih => bk_X7_longPower_5  ih p0 p2) n
set_option maxHeartbeats 4000000 in
set_option maxRecDepth 100000 in
theorem wl_X7_longPower_5 {p : Program} {l : Launch} {e : Env} {s : State} {m : MethodId} {args : Array Value} {below : List Frame} {meth : Method} {c : Code} {D : va_G} {cI cC cZ : ClassId} {A : Nat → Prop} {p0 : Int64} {p2 : Int32}  {rr : Int64} (C0 : kC p s m args meth c D (kTY cI cC cZ) cX7_longPower (some .long) 6 RX7 A)  : ∀ (n : Nat) (p3 : Int64) (p5 : Int32), lp_X7_longPower_5  p0 p2 n p3 p5 = some rr → ∀ (H : Heap) (locs : List Loc), va_P D vwCl (WD0 cI cC cZ) H → va_D A (WD0 cI cC cZ) → va_S A s.heap H locs → ∀ ls : Array Slot, lv_has ls 6 [(0, .long p0), (2, .int p2), (3, .long p3), (5, .int p5)] → W p l e rm_X7_longPower s m args below meth c H locs 0 0 (MQ below (kQL D (kTY cI cC cZ) A rr (WD0 cI cC cZ)) args s 0 0 A) (F0 m 5 ls []) := by
  intro n
  induction n with
  | zero => intro p3 p5 h; cases (show (none : Option (Int64)) = some _ from h)
  | succ n ih =>
    intro p3 p5 h H locs hP hD hS ls hl
    exact wk_X7_longPower_5 C0  (fun p3 p5 h H locs hP hD hS ls hl => ih p3 p5 h H locs hP hD hS ls hl) (show bk_X7_longPower_5  (lp_X7_longPower_5  p0 p2 n) p0 p2 p3 p5 = some _ from h) hP hD hS hl
noncomputable def f_X7_longPower  (p0 : Int64) (p2 : Int32) : Option (Int64) := lp_X7_longPower_5  p0 p2 1000 (1 : Int64) (0 : Int32)
set_option maxHeartbeats 4000000 in
set_option maxRecDepth 100000 in
theorem c_X7_longPower (l : Launch) (D : va_G) (cI cC cZ : ClassId) (sz : Nat) (p0 : Int64) (p2 : Int32) (rr : Int64) (hf : f_X7_longPower p0 p2 = some rr) : kMet l yX7_longPower cX7_longPower 6 (some .long) rm_X7_longPower D (kTY cI cC cZ) [.long p0, .int p2] (WD0 cI cC cZ) sz (kQL D (kTY cI cC cZ) (va_A (WD0 cI cC cZ) sz) rr (WD0 cI cC cZ)) := by
  refine kEnter (lv := [(0, .long p0), (2, .int p2)]) (own := RX7) (by decide) rfl (Nat.le_of_ble_eq_true rfl) rfl ?_
  intro p e s m below meth c hsz C0 hP hD hS ls hl
  generalize (va_A (WD0 cI cC cZ) sz) = A at C0 hD hS ⊢
  clear hsz hS
  obtain ⟨H, hHs⟩ : ∃ H : Heap, H = s.heap := ⟨_, rfl⟩
  have hS : va_S A s.heap H [] := by rw [hHs]; exact va_S.rf
  rw [← hHs] at hP ⊢
  obtain ⟨hx, hb, hr, hml, hown, hts, hK, hN, hA, hlocks, hF⟩ := id C0
  have h := hf
  unfold f_X7_longPower at h
  refine lv_lconst (v := (1 : Int64)) hx hb dX7_longPower_0 (by decide) ?_
  refine lv_lstore_n (lv' := [(3, .long (1 : Int64)), (0, .long p0), (2, .int p2)]) hx hb dX7_longPower_1 rfl hl (by decide) rfl (fun ls hl => ?_)
  refine lv_iconst (v := (0 : Int32)) hx hb dX7_longPower_2 (by decide) ?_
  refine lv_istore (lv' := [(5, .int (0 : Int32)), (3, .long (1 : Int64)), (0, .long p0), (2, .int p2)]) hx hb dX7_longPower_3 hl (by decide) rfl (fun ls hl => ?_)
  exact wl_X7_longPower_5 C0  _ _ _ h _ _ hP hD hS _ (lv_sub hl [2, 3, 1, 0] rfl)
abbrev rm_X7_judge : Room := { frames := 9, cells := 0, slots := 0, locals := 231 }
noncomputable def bk_X7_judge_51 (k51 : (Nat → Int32) → Int32 → Option (Int32 × Int32 × (Nat → Int32))) (M_thrown : Int32) (M_plan : Nat → Int32) (p1 : Int32) (p2 : Int64) (M_trial : Nat → Int32) (p4 : Int32) : Option (Int32 × Int32 × (Nat → Int32)) := if p1 ≤ p4 then (some ((-9 : Int32), M_thrown, M_trial)) else ((f_X7_longPower (10000 : Int64) ((p1 - (1 : Int32)) - p4)).bind (fun r3 => if r3 = 0 then none else (nm_ (Int64.toInt32 ((p2 / r3) - (p2 / r3) / (10000 : Int64) * (10000 : Int64))) (fun t5 => (f_X7_does M_plan M_trial (t5 / (1000 : Int32)) ((t5 / (100 : Int32)) - (t5 / (100 : Int32)) / (10 : Int32) * (10 : Int32)) ((t5 / (10 : Int32)) - (t5 / (10 : Int32)) / (10 : Int32) * (10 : Int32)) (t5 - t5 / (10 : Int32) * (10 : Int32))).bind (fun z => un2 z (fun r7 u8 => if r7 = 0 then (some (p4, M_thrown, u8)) else (nm_ (p4 + (1 : Int32)) (fun t10 => k51 u8 t10))))))))
set_option maxHeartbeats 4000000 in
set_option maxRecDepth 100000 in
theorem wk_X7_judge_51 {p : Program} {l : Launch} {e : Env} {s : State} {m : MethodId} {args : Array Value} {below : List Frame} {meth : Method} {c : Code} {D : va_G} {cI cC cZ : ClassId} {A : Nat → Prop} {a_M a_M_text a_M_plan a_M_read a_M_readPage a_M_page a_M_trial a_M_book a_M_kept a_M_isKept a_M_seenPoint a_M_seenSum a_M_seenWas : Nat} {M_thrown : Int32} {M_textSize : Int32} {M_place : Int32} {M_doings : Int32} {M_seen : Int32} {M_seed : Int64} {M_bestSet : Int32} {M_text : Nat → Int32} {M_plan : Nat → Int32} {M_read : Nat → Int32} {M_readPage : Nat → Int32} {M_page : Nat → Int32} {M_trial : Nat → Int32} {M_book : Nat → Int32} {M_kept : Nat → Int32} {M_isKept : Nat → Int32} {M_seenPoint : Nat → Int32} {M_seenSum : Nat → Int32} {M_seenWas : Nat → Int32} {p1 : Int32} {p2 : Int64} {p4 : Int32} {k51 : (Nat → Int32) → Int32 → Option (Int32 × Int32 × (Nat → Int32))} {rr : Int32} {u_M_thrown : Int32} {u_M_trial : Nat → Int32} (C0 : kC p s m args meth c D (kTY cI cC cZ) cX7_judge (some .int) 6 RX7 A) (hk51 : ∀ (M_trial_k : Nat → Int32) (p4_k : Int32), k51 M_trial_k p4_k = some (rr, u_M_thrown, u_M_trial) → ∀ (H : Heap) (locs : List Loc), va_P D vwCl (WD16 cI cC cZ a_M a_M_text a_M_plan a_M_read a_M_readPage a_M_page a_M_trial a_M_book a_M_kept a_M_isKept a_M_seenPoint a_M_seenSum a_M_seenWas M_thrown M_textSize M_place M_doings M_seen M_seed M_bestSet M_text M_plan M_read M_readPage M_page M_trial_k M_book M_kept M_isKept M_seenPoint M_seenSum M_seenWas) H → va_D A (WD16 cI cC cZ a_M a_M_text a_M_plan a_M_read a_M_readPage a_M_page a_M_trial a_M_book a_M_kept a_M_isKept a_M_seenPoint a_M_seenSum a_M_seenWas M_thrown M_textSize M_place M_doings M_seen M_seed M_bestSet M_text M_plan M_read M_readPage M_page M_trial_k M_book M_kept M_isKept M_seenPoint M_seenSum M_seenWas) → va_S A s.heap H locs → ∀ ls : Array Slot, lv_has ls 6 [(0, .ref a_M), (1, .int p1), (2, .long p2), (4, .int p4_k)] → W p l e rm_X7_judge s m args below meth c H locs 0 0 (MQ below (kQI D (kTY cI cC cZ) A rr (WD16 cI cC cZ a_M a_M_text a_M_plan a_M_read a_M_readPage a_M_page a_M_trial a_M_book a_M_kept a_M_isKept a_M_seenPoint a_M_seenSum a_M_seenWas u_M_thrown M_textSize M_place M_doings M_seen M_seed M_bestSet M_text M_plan M_read M_readPage M_page u_M_trial M_book M_kept M_isKept M_seenPoint M_seenSum M_seenWas)) args s 0 0 A) (F0 m 51 ls [])) (h : bk_X7_judge_51 k51 M_thrown M_plan p1 p2 M_trial p4 = some (rr, u_M_thrown, u_M_trial)) {H : Heap} {locs : List Loc} (hP : va_P D vwCl (WD16 cI cC cZ a_M a_M_text a_M_plan a_M_read a_M_readPage a_M_page a_M_trial a_M_book a_M_kept a_M_isKept a_M_seenPoint a_M_seenSum a_M_seenWas M_thrown M_textSize M_place M_doings M_seen M_seed M_bestSet M_text M_plan M_read M_readPage M_page M_trial M_book M_kept M_isKept M_seenPoint M_seenSum M_seenWas) H) (hD : va_D A (WD16 cI cC cZ a_M a_M_text a_M_plan a_M_read a_M_readPage a_M_page a_M_trial a_M_book a_M_kept a_M_isKept a_M_seenPoint a_M_seenSum a_M_seenWas M_thrown M_textSize M_place M_doings M_seen M_seed M_bestSet M_text M_plan M_read M_readPage M_page M_trial M_book M_kept M_isKept M_seenPoint M_seenSum M_seenWas)) (hS : va_S A s.heap H locs) {ls : Array Slot} (hl : lv_has ls 6 [(0, .ref a_M), (1, .int p1), (2, .long p2), (4, .int p4)]) : W p l e rm_X7_judge s m args below meth c H locs 0 0 (MQ below (kQI D (kTY cI cC cZ) A rr (WD16 cI cC cZ a_M a_M_text a_M_plan a_M_read a_M_readPage a_M_page a_M_trial a_M_book a_M_kept a_M_isKept a_M_seenPoint a_M_seenSum a_M_seenWas u_M_thrown M_textSize M_place M_doings M_seen M_seed M_bestSet M_text M_plan M_read M_readPage M_page u_M_trial M_book M_kept M_isKept M_seenPoint M_seenSum M_seenWas)) args s 0 0 A) (F0 m 51 ls []) := by
  obtain ⟨hx, hb, hr, hml, hown, hts, hK, hN, hA, hlocks, hF⟩ := id C0
  unfold bk_X7_judge_51 at h
  refine lv_iload hx hb dX7_judge_51 (lv_at hl 3 rfl) ?_
  refine lv_iload_n hx hb dX7_judge_53 rfl (lv_at hl 1 rfl) ?_
  refine lv_icmp_ge (tgt := 121) hx hb dX7_judge_54 (by decide) (fun c1 => ?_) (fun c1 => ?_)
  · have h := oc_t c1 h
    refine lv_bipush (v := (-9 : Int32)) hx hb dX7_judge_121 (by decide) ?_
    cases h
    exact kret_i C0 hP hD hS rfl dX7_judge_123
  · have h := oc_f c1 h
    refine lv_lload_n hx hb dX7_judge_57 rfl (lv_at hl 2 rfl) ?_
    refine lv_ldc2 (v := (10000 : Int64)) hx hb hown (hts _ kw_661) dX7_judge_58 ?_
    refine lv_iload_n hx hb dX7_judge_61 rfl (lv_at hl 1 rfl) ?_
    refine lv_iconst (v := (1 : Int32)) hx hb dX7_judge_62 (by decide) ?_
    refine lv_isub hx hb dX7_judge_63 ?_
    refine lv_iload hx hb dX7_judge_64 (lv_at hl 3 rfl) ?_
    refine lv_isub hx hb dX7_judge_66 ?_
    obtain ⟨r3, hc2, h⟩ := oc_bind h
    refine kro_l (wc := (WD0 cI cC cZ)) C0 hP hD hS [] rfl (kS (n := 2) (As := [.long (10000 : Int64), .int ((p1 - (1 : Int32)) - p4)]) (rest := [.long p2]) (wc := (WD0 cI cC cZ)) C0 hP hD hS [] rfl (by decide) (c_X7_longPower l D cI cC cZ  H.size  (10000 : Int64) ((p1 - (1 : Int32)) - p4) r3 hc2) kw_664 kw_662 kw_663 kw_5 (by decide +kernel) (by decide) rfl hl.1 rfl (Nat.le_of_ble_eq_true rfl) ⟨Nat.zero_le _, Nat.zero_le _⟩ dX7_judge_67) (fun H locs hP hS => ?_)
    obtain ⟨hz4, h⟩ := oc_else h
    refine lv_ldiv hx hb dX7_judge_70 hz4 ?_
    refine lv_ldc2 (v := (10000 : Int64)) hx hb hown (hts _ kw_661) dX7_judge_71 ?_
    refine lv_lrem hx hb dX7_judge_74 (by decide) ?_
    refine lv_l2i hx hb dX7_judge_75 rfl ?_
    refine lv_topi (fun t5 e_t5 => ?_)
    have h := oc_nm e_t5 h
    refine lv_istore (lv' := [(5, .int t5), (0, .ref a_M), (1, .int p1), (2, .long p2), (4, .int p4)]) hx hb dX7_judge_76 hl (by decide) rfl (fun ls hl => ?_)
    refine lv_aload_n hx hb dX7_judge_78 rfl (lv_at hl 1 rfl) ?_
    refine lv_iload hx hb dX7_judge_79 (lv_at hl 0 rfl) ?_
    refine lv_sipush (v := (1000 : Int32)) hx hb dX7_judge_81 (by decide) ?_
    refine lv_idiv hx hb dX7_judge_84 (by decide) ?_
    refine lv_iload hx hb dX7_judge_85 (lv_at hl 0 rfl) ?_
    refine lv_bipush (v := (100 : Int32)) hx hb dX7_judge_87 (by decide) ?_
    refine lv_idiv hx hb dX7_judge_89 (by decide) ?_
    refine lv_bipush (v := (10 : Int32)) hx hb dX7_judge_90 (by decide) ?_
    refine lv_irem hx hb dX7_judge_92 (by decide) ?_
    refine lv_iload hx hb dX7_judge_93 (lv_at hl 0 rfl) ?_
    refine lv_bipush (v := (10 : Int32)) hx hb dX7_judge_95 (by decide) ?_
    refine lv_idiv hx hb dX7_judge_97 (by decide) ?_
    refine lv_bipush (v := (10 : Int32)) hx hb dX7_judge_98 (by decide) ?_
    refine lv_irem hx hb dX7_judge_100 (by decide) ?_
    refine lv_iload hx hb dX7_judge_101 (lv_at hl 0 rfl) ?_
    refine lv_bipush (v := (10 : Int32)) hx hb dX7_judge_103 (by decide) ?_
    refine lv_irem hx hb dX7_judge_105 (by decide) ?_
    obtain ⟨r7, u8, hc6, h⟩ := oc_b2 h
    refine kgo_i (wc := (WD16 cI cC cZ a_M a_M_text a_M_plan a_M_read a_M_readPage a_M_page a_M_trial a_M_book a_M_kept a_M_isKept a_M_seenPoint a_M_seenSum a_M_seenWas M_thrown M_textSize M_place M_doings M_seen M_seed M_bestSet M_text M_plan M_read M_readPage M_page M_trial M_book M_kept M_isKept M_seenPoint M_seenSum M_seenWas)) (wc' := (WD16 cI cC cZ a_M a_M_text a_M_plan a_M_read a_M_readPage a_M_page a_M_trial a_M_book a_M_kept a_M_isKept a_M_seenPoint a_M_seenSum a_M_seenWas M_thrown M_textSize M_place M_doings M_seen M_seed M_bestSet M_text M_plan M_read M_readPage M_page u8 M_book M_kept M_isKept M_seenPoint M_seenSum M_seenWas)) (ws' := (WD16 cI cC cZ a_M a_M_text a_M_plan a_M_read a_M_readPage a_M_page a_M_trial a_M_book a_M_kept a_M_isKept a_M_seenPoint a_M_seenSum a_M_seenWas M_thrown M_textSize M_place M_doings M_seen M_seed M_bestSet M_text M_plan M_read M_readPage M_page u8 M_book M_kept M_isKept M_seenPoint M_seenSum M_seenWas)) C0 hP hD hS [0, 1, 2, 3, 4, 5, 6, 7, 8, 9, 10, 11, 12] [] [0, 1, 2, 3, 4, 5, 6, 7, 8, 9, 10, 11, 12] [] rfl rfl (by decide) (by decide) rfl (by decide) (kV (n := 4) (As := [.int (t5 / (1000 : Int32)), .int ((t5 / (100 : Int32)) - (t5 / (100 : Int32)) / (10 : Int32) * (10 : Int32)), .int ((t5 / (10 : Int32)) - (t5 / (10 : Int32)) / (10 : Int32) * (10 : Int32)), .int (t5 - t5 / (10 : Int32) * (10 : Int32))]) (rest := []) (wc := (WD16 cI cC cZ a_M a_M_text a_M_plan a_M_read a_M_readPage a_M_page a_M_trial a_M_book a_M_kept a_M_isKept a_M_seenPoint a_M_seenSum a_M_seenWas M_thrown M_textSize M_place M_doings M_seen M_seed M_bestSet M_text M_plan M_read M_readPage M_page M_trial M_book M_kept M_isKept M_seenPoint M_seenSum M_seenWas)) (C := RX7) C0 hP hD hS [0, 1, 2, 3, 4, 5, 6, 7, 8, 9, 10, 11, 12] rfl (by decide) (c_X7_does l D cI cC cZ a_M a_M_text a_M_plan a_M_read a_M_readPage a_M_page a_M_trial a_M_book a_M_kept a_M_isKept a_M_seenPoint a_M_seenSum a_M_seenWas H.size M_thrown M_textSize M_place M_doings M_seen M_seed M_bestSet M_text M_plan M_read M_readPage M_page M_trial M_book M_kept M_isKept M_seenPoint M_seenSum M_seenWas (t5 / (1000 : Int32)) ((t5 / (100 : Int32)) - (t5 / (100 : Int32)) / (10 : Int32) * (10 : Int32)) ((t5 / (10 : Int32)) - (t5 / (10 : Int32)) / (10 : Int32) * (10 : Int32)) (t5 - t5 / (10 : Int32) * (10 : Int32)) r7 u8 hc6) kw_668 kw_665 kw_666 kw_667 kw_5 (by decide +kernel) (by decide) rfl rfl rfl hl.1 rfl (Nat.le_of_ble_eq_true rfl) ⟨Nat.zero_le _, Nat.zero_le _⟩ dX7_judge_106) (fun H locs hP hD hS => ?_)
    refine lv_if_ne (tgt := 115) hx hb dX7_judge_109 (by decide) (fun c9 => ?_) (fun c9 => ?_)
    · have h := oc_f c9 h
      obtain ⟨t10, e_t10⟩ : ∃ y : Int32, y = p4 + (1 : Int32) := ⟨_, rfl⟩
      have h := oc_nm e_t10 h
      refine lv_iinc (v := t10) (lv' := [(4, .int t10), (5, .int t5), (0, .ref a_M), (1, .int p1), (2, .long p2)]) hx hb dX7_judge_115 hl (k := 4) rfl (by rw [e_t10]; rfl) (by decide) rfl (fun ls hl => ?_)
      refine lv_goto (tgt := 51) hx hb dX7_judge_118 (by decide) ?_
      exact hk51 _ _ h _ _ hP hD hS _ (lv_sub hl [2, 3, 4, 0] rfl)
    · have h := oc_t c9 h
      refine lv_iload hx hb dX7_judge_112 (lv_at hl 4 rfl) ?_
      cases h
      exact kret_i C0 hP hD hS rfl dX7_judge_114
noncomputable def lp_X7_judge_51  (M_thrown : Int32) (M_plan : Nat → Int32) (p1 : Int32) (p2 : Int64) (n : Nat) : (Nat → Int32) → Int32 → Option (Int32 × Int32 × (Nat → Int32)) := Nat.rec (motive := fun _ => (Nat → Int32) → Int32 → Option (Int32 × Int32 × (Nat → Int32))) (fun _ _ => none) (fun _ ih => bk_X7_judge_51  ih M_thrown M_plan p1 p2) n
set_option maxHeartbeats 4000000 in
set_option maxRecDepth 100000 in
theorem wl_X7_judge_51 {p : Program} {l : Launch} {e : Env} {s : State} {m : MethodId} {args : Array Value} {below : List Frame} {meth : Method} {c : Code} {D : va_G} {cI cC cZ : ClassId} {A : Nat → Prop} {a_M a_M_text a_M_plan a_M_read a_M_readPage a_M_page a_M_trial a_M_book a_M_kept a_M_isKept a_M_seenPoint a_M_seenSum a_M_seenWas : Nat} {M_thrown : Int32} {M_textSize : Int32} {M_place : Int32} {M_doings : Int32} {M_seen : Int32} {M_seed : Int64} {M_bestSet : Int32} {M_text : Nat → Int32} {M_plan : Nat → Int32} {M_read : Nat → Int32} {M_readPage : Nat → Int32} {M_page : Nat → Int32} {M_book : Nat → Int32} {M_kept : Nat → Int32} {M_isKept : Nat → Int32} {M_seenPoint : Nat → Int32} {M_seenSum : Nat → Int32} {M_seenWas : Nat → Int32} {p1 : Int32} {p2 : Int64}  {rr : Int32} {u_M_thrown : Int32} {u_M_trial : Nat → Int32} (C0 : kC p s m args meth c D (kTY cI cC cZ) cX7_judge (some .int) 6 RX7 A)  : ∀ (n : Nat) (M_trial : Nat → Int32) (p4 : Int32), lp_X7_judge_51  M_thrown M_plan p1 p2 n M_trial p4 = some (rr, u_M_thrown, u_M_trial) → ∀ (H : Heap) (locs : List Loc), va_P D vwCl (WD16 cI cC cZ a_M a_M_text a_M_plan a_M_read a_M_readPage a_M_page a_M_trial a_M_book a_M_kept a_M_isKept a_M_seenPoint a_M_seenSum a_M_seenWas M_thrown M_textSize M_place M_doings M_seen M_seed M_bestSet M_text M_plan M_read M_readPage M_page M_trial M_book M_kept M_isKept M_seenPoint M_seenSum M_seenWas) H → va_D A (WD16 cI cC cZ a_M a_M_text a_M_plan a_M_read a_M_readPage a_M_page a_M_trial a_M_book a_M_kept a_M_isKept a_M_seenPoint a_M_seenSum a_M_seenWas M_thrown M_textSize M_place M_doings M_seen M_seed M_bestSet M_text M_plan M_read M_readPage M_page M_trial M_book M_kept M_isKept M_seenPoint M_seenSum M_seenWas) → va_S A s.heap H locs → ∀ ls : Array Slot, lv_has ls 6 [(0, .ref a_M), (1, .int p1), (2, .long p2), (4, .int p4)] → W p l e rm_X7_judge s m args below meth c H locs 0 0 (MQ below (kQI D (kTY cI cC cZ) A rr (WD16 cI cC cZ a_M a_M_text a_M_plan a_M_read a_M_readPage a_M_page a_M_trial a_M_book a_M_kept a_M_isKept a_M_seenPoint a_M_seenSum a_M_seenWas u_M_thrown M_textSize M_place M_doings M_seen M_seed M_bestSet M_text M_plan M_read M_readPage M_page u_M_trial M_book M_kept M_isKept M_seenPoint M_seenSum M_seenWas)) args s 0 0 A) (F0 m 51 ls []) := by
  intro n
  induction n with
  | zero => intro M_trial p4 h; cases (show (none : Option (Int32 × Int32 × (Nat → Int32))) = some _ from h)
  | succ n ih =>
    intro M_trial p4 h H locs hP hD hS ls hl
    exact wk_X7_judge_51 C0  (fun M_trial p4 h H locs hP hD hS ls hl => ih M_trial p4 h H locs hP hD hS ls hl) (show bk_X7_judge_51  (lp_X7_judge_51  M_thrown M_plan p1 p2 n) M_thrown M_plan p1 p2 M_trial p4 = some _ from h) hP hD hS hl
noncomputable def f_X7_judge (M_thrown : Int32) (M_plan : Nat → Int32) (M_page : Nat → Int32) (M_trial : Nat → Int32) (p1 : Int32) (p2 : Int64) : Option (Int32 × Int32 × (Nat → Int32)) := (f_X7_in (Int32.toInt64 p1) (1 : Int64) (4 : Int64)).bind (fun r2 => if r2 = 0 then (some ((-2 : Int32), (0 : Int32), M_trial)) else ((f_X7_longPower (10000 : Int64) p1).bind (fun r5 => (f_X7_in p2 (0 : Int64) (r5 - (1 : Int64))).bind (fun r7 => if r7 = 0 then (some ((-2 : Int32), (0 : Int32), M_trial)) else ((f_X7_copy M_page M_trial).bind (fun u10 => lp_X7_judge_51  (0 : Int32) M_plan p1 p2 1000 u10 (0 : Int32)))))))
set_option maxHeartbeats 4000000 in
set_option maxRecDepth 100000 in
theorem c_X7_judge (l : Launch) (D : va_G) (cI cC cZ : ClassId) (a_M a_M_text a_M_plan a_M_read a_M_readPage a_M_page a_M_trial a_M_book a_M_kept a_M_isKept a_M_seenPoint a_M_seenSum a_M_seenWas : Nat) (sz : Nat) (M_thrown : Int32) (M_textSize : Int32) (M_place : Int32) (M_doings : Int32) (M_seen : Int32) (M_seed : Int64) (M_bestSet : Int32) (M_text : Nat → Int32) (M_plan : Nat → Int32) (M_read : Nat → Int32) (M_readPage : Nat → Int32) (M_page : Nat → Int32) (M_trial : Nat → Int32) (M_book : Nat → Int32) (M_kept : Nat → Int32) (M_isKept : Nat → Int32) (M_seenPoint : Nat → Int32) (M_seenSum : Nat → Int32) (M_seenWas : Nat → Int32) (p1 : Int32) (p2 : Int64) (rr : Int32) (u_M_thrown : Int32) (u_M_trial : Nat → Int32) (hf : f_X7_judge M_thrown M_plan M_page M_trial p1 p2 = some (rr, u_M_thrown, u_M_trial)) : kMet l yX7_judge cX7_judge 6 (some .int) rm_X7_judge D (kTY cI cC cZ) [.ref a_M, .int p1, .long p2] (WD16 cI cC cZ a_M a_M_text a_M_plan a_M_read a_M_readPage a_M_page a_M_trial a_M_book a_M_kept a_M_isKept a_M_seenPoint a_M_seenSum a_M_seenWas M_thrown M_textSize M_place M_doings M_seen M_seed M_bestSet M_text M_plan M_read M_readPage M_page M_trial M_book M_kept M_isKept M_seenPoint M_seenSum M_seenWas) sz (kQI D (kTY cI cC cZ) (va_A (WD16 cI cC cZ a_M a_M_text a_M_plan a_M_read a_M_readPage a_M_page a_M_trial a_M_book a_M_kept a_M_isKept a_M_seenPoint a_M_seenSum a_M_seenWas M_thrown M_textSize M_place M_doings M_seen M_seed M_bestSet M_text M_plan M_read M_readPage M_page M_trial M_book M_kept M_isKept M_seenPoint M_seenSum M_seenWas) sz) rr (WD16 cI cC cZ a_M a_M_text a_M_plan a_M_read a_M_readPage a_M_page a_M_trial a_M_book a_M_kept a_M_isKept a_M_seenPoint a_M_seenSum a_M_seenWas u_M_thrown M_textSize M_place M_doings M_seen M_seed M_bestSet M_text M_plan M_read M_readPage M_page u_M_trial M_book M_kept M_isKept M_seenPoint M_seenSum M_seenWas)) := by
  refine kEnter (lv := [(0, .ref a_M), (1, .int p1), (2, .long p2)]) (own := RX7) (by decide) rfl (Nat.le_of_ble_eq_true rfl) rfl ?_
  intro p e s m below meth c hsz C0 hP hD hS ls hl
  generalize (va_A (WD16 cI cC cZ a_M a_M_text a_M_plan a_M_read a_M_readPage a_M_page a_M_trial a_M_book a_M_kept a_M_isKept a_M_seenPoint a_M_seenSum a_M_seenWas M_thrown M_textSize M_place M_doings M_seen M_seed M_bestSet M_text M_plan M_read M_readPage M_page M_trial M_book M_kept M_isKept M_seenPoint M_seenSum M_seenWas) sz) = A at C0 hD hS ⊢
  clear hsz hS
  obtain ⟨H, hHs⟩ : ∃ H : Heap, H = s.heap := ⟨_, rfl⟩
  have hS : va_S A s.heap H [] := by rw [hHs]; exact va_S.rf
  rw [← hHs] at hP ⊢
  obtain ⟨hx, hb, hr, hml, hown, hts, hK, hN, hA, hlocks, hF⟩ := id C0
  have h := hf
  unfold f_X7_judge at h
  refine lv_aload_n hx hb dX7_judge_0 rfl (lv_at hl 0 rfl) ?_
  refine lv_iconst (v := (0 : Int32)) hx hb dX7_judge_1 (by decide) ?_
  refine va_put (D := D) (ci := 7) (v := .int (0 : Int32)) (ty := .int) (C := RX7) (T := TX7) (N := 19) hx hb hts inlX7 tyX7 tyX7_ok nmX7 hown hK hP hD hS 0 rfl rfl 0 (by decide) (hts _ kw_109) (fun _ h9 => h9) rfl (by decide +kernel) rfl rfl (Nat.le_of_ble_eq_true rfl) dX7_judge_2 (fun H locs hP hD hS => ?_)
  have hP : va_P D vwCl (WD16 cI cC cZ a_M a_M_text a_M_plan a_M_read a_M_readPage a_M_page a_M_trial a_M_book a_M_kept a_M_isKept a_M_seenPoint a_M_seenSum a_M_seenWas (0 : Int32) M_textSize M_place M_doings M_seen M_seed M_bestSet M_text M_plan M_read M_readPage M_page M_trial M_book M_kept M_isKept M_seenPoint M_seenSum M_seenWas) H := hP
  have hD : va_D A (WD16 cI cC cZ a_M a_M_text a_M_plan a_M_read a_M_readPage a_M_page a_M_trial a_M_book a_M_kept a_M_isKept a_M_seenPoint a_M_seenSum a_M_seenWas (0 : Int32) M_textSize M_place M_doings M_seen M_seed M_bestSet M_text M_plan M_read M_readPage M_page M_trial M_book M_kept M_isKept M_seenPoint M_seenSum M_seenWas) := hD
  refine lv_iload_n hx hb dX7_judge_5 rfl (lv_at hl 1 rfl) ?_
  refine lv_i2l hx hb dX7_judge_6 rfl ?_
  refine lv_lconst (v := (1 : Int64)) hx hb dX7_judge_7 (by decide) ?_
  refine lv_ldc2 (v := (4 : Int64)) hx hb hown (hts _ kw_660) dX7_judge_8 ?_
  obtain ⟨r2, hc1, h⟩ := oc_bind h
  refine kro_i (wc := (WD0 cI cC cZ)) C0 hP hD hS [] rfl (kS (n := 3) (As := [.long (Int32.toInt64 p1), .long (1 : Int64), .long (4 : Int64)]) (rest := []) (wc := (WD0 cI cC cZ)) C0 hP hD hS [] rfl (by decide) (c_X7_in l D cI cC cZ  H.size  (Int32.toInt64 p1) (1 : Int64) (4 : Int64) r2 hc1) kw_114 kw_112 kw_113 kw_5 (by decide +kernel) (by decide) rfl hl.1 rfl (Nat.le_of_ble_eq_true rfl) ⟨Nat.zero_le _, Nat.zero_le _⟩ dX7_judge_11) (fun H locs hP hS => ?_)
  refine lv_if_eq (tgt := 34) hx hb dX7_judge_14 (by decide) (fun c3 => ?_) (fun c3 => ?_)
  · have h := oc_t c3 h
    refine lv_bipush (v := (-2 : Int32)) hx hb dX7_judge_34 (by decide) ?_
    cases h
    exact kret_i C0 hP hD hS rfl dX7_judge_36
  · have h := oc_f c3 h
    refine lv_lload_n hx hb dX7_judge_17 rfl (lv_at hl 2 rfl) ?_
    refine lv_lconst (v := (0 : Int64)) hx hb dX7_judge_18 (by decide) ?_
    refine lv_ldc2 (v := (10000 : Int64)) hx hb hown (hts _ kw_661) dX7_judge_19 ?_
    refine lv_iload_n hx hb dX7_judge_22 rfl (lv_at hl 1 rfl) ?_
    obtain ⟨r5, hc4, h⟩ := oc_bind h
    refine kro_l (wc := (WD0 cI cC cZ)) C0 hP hD hS [] rfl (kS (n := 2) (As := [.long (10000 : Int64), .int p1]) (rest := [.long (0 : Int64), .long p2]) (wc := (WD0 cI cC cZ)) C0 hP hD hS [] rfl (by decide) (c_X7_longPower l D cI cC cZ  H.size  (10000 : Int64) p1 r5 hc4) kw_664 kw_662 kw_663 kw_5 (by decide +kernel) (by decide) rfl hl.1 rfl (Nat.le_of_ble_eq_true rfl) ⟨Nat.zero_le _, Nat.zero_le _⟩ dX7_judge_23) (fun H locs hP hS => ?_)
    refine lv_lconst (v := (1 : Int64)) hx hb dX7_judge_26 (by decide) ?_
    refine lv_lsub hx hb dX7_judge_27 ?_
    obtain ⟨r7, hc6, h⟩ := oc_bind h
    refine kro_i (wc := (WD0 cI cC cZ)) C0 hP hD hS [] rfl (kS (n := 3) (As := [.long p2, .long (0 : Int64), .long (r5 - (1 : Int64))]) (rest := []) (wc := (WD0 cI cC cZ)) C0 hP hD hS [] rfl (by decide) (c_X7_in l D cI cC cZ  H.size  p2 (0 : Int64) (r5 - (1 : Int64)) r7 hc6) kw_114 kw_112 kw_113 kw_5 (by decide +kernel) (by decide) rfl hl.1 rfl (Nat.le_of_ble_eq_true rfl) ⟨Nat.zero_le _, Nat.zero_le _⟩ dX7_judge_28) (fun H locs hP hS => ?_)
    refine lv_if_ne (tgt := 37) hx hb dX7_judge_31 (by decide) (fun c8 => ?_) (fun c8 => ?_)
    · have h := oc_f c8 h
      refine lv_aload_n hx hb dX7_judge_37 rfl (lv_at hl 0 rfl) ?_
      refine va_get (D := D) (ci := 7) (v := .ref a_M_page) (C := RX7) (T := TX7) (N := 19) hx hb hts inlX7 hown hK hP 0 rfl rfl 7 (by decide) (hts _ kw_88) (fun _ h9 => h9) rfl dX7_judge_38 ?_
      refine lv_aload_n hx hb dX7_judge_41 rfl (lv_at hl 0 rfl) ?_
      refine va_get (D := D) (ci := 7) (v := .ref a_M_trial) (C := RX7) (T := TX7) (N := 19) hx hb hts inlX7 hown hK hP 0 rfl rfl 8 (by decide) (hts _ kw_89) (fun _ h9 => h9) rfl dX7_judge_42 ?_
      obtain ⟨u10, hc9, h⟩ := oc_bind h
      refine kgo_v (wc := (WD15 cI cC cZ a_M_page a_M_trial M_page M_trial)) (wc' := (WD15 cI cC cZ a_M_page a_M_trial M_page u10)) (ws' := (WD16 cI cC cZ a_M a_M_text a_M_plan a_M_read a_M_readPage a_M_page a_M_trial a_M_book a_M_kept a_M_isKept a_M_seenPoint a_M_seenSum a_M_seenWas (0 : Int32) M_textSize M_place M_doings M_seen M_seed M_bestSet M_text M_plan M_read M_readPage M_page u10 M_book M_kept M_isKept M_seenPoint M_seenSum M_seenWas)) C0 hP hD hS [5, 6] [0, 1, 2, 3, 4, 7, 8, 9, 10, 11, 12] [0, 1, 2, 3, 4, 11, 12, 5, 6, 7, 8, 9, 10] [(a_M, .inr (7, [.int (0 : Int32), .ref a_M_text, .int M_textSize, .int M_place, .ref a_M_plan, .ref a_M_read, .ref a_M_readPage, .ref a_M_page, .ref a_M_trial, .ref a_M_book, .int M_doings, .ref a_M_kept, .ref a_M_isKept, .int M_seen, .ref a_M_seenPoint, .ref a_M_seenSum, .ref a_M_seenWas, .long M_seed, .int M_bestSet])), (a_M_text, .inl (cI, 99, .inl M_text)), (a_M_plan, .inl (cI, 78, .inl M_plan)), (a_M_read, .inl (cI, 78, .inl M_read)), (a_M_readPage, .inl (cI, 9, .inl M_readPage)), (a_M_book, .inl (cI, 126, .inl M_book)), (a_M_kept, .inl (cI, 18, .inl M_kept)), (a_M_isKept, .inl (cZ, 2, .inl M_isKept)), (a_M_seenPoint, .inl (cI, 6, .inl M_seenPoint)), (a_M_seenSum, .inl (cI, 6, .inl M_seenSum)), (a_M_seenWas, .inl (cI, 6, .inl M_seenWas))] rfl rfl (by decide) (by decide) rfl (by decide) (kS (n := 2) (As := [.ref a_M_page, .ref a_M_trial]) (rest := []) (wc := (WD15 cI cC cZ a_M_page a_M_trial M_page M_trial)) C0 hP hD hS [5, 6] rfl (by decide) (c_X7_copy l D cI cC cZ a_M_page a_M_trial H.size M_page M_trial  u10 hc9) kw_272 kw_270 kw_271 kw_5 (by decide +kernel) (by decide) rfl hl.1 rfl (Nat.le_of_ble_eq_true rfl) ⟨Nat.zero_le _, Nat.zero_le _⟩ dX7_judge_45) (fun H locs hP hD hS => ?_)
      refine lv_iconst (v := (0 : Int32)) hx hb dX7_judge_48 (by decide) ?_
      refine lv_istore (lv' := [(4, .int (0 : Int32)), (0, .ref a_M), (1, .int p1), (2, .long p2)]) hx hb dX7_judge_49 hl (by decide) rfl (fun ls hl => ?_)
      exact wl_X7_judge_51 C0  _ _ _ h _ _ hP hD hS _ (lv_sub hl [1, 2, 3, 0] rfl)
    · have h := oc_t c8 h
      refine lv_bipush (v := (-2 : Int32)) hx hb dX7_judge_34 (by decide) ?_
      cases h
      exact kret_i C0 hP hD hS rfl dX7_judge_36
abbrev rm_X7_see : Room := { frames := 2, cells := 0, slots := 0, locals := 46 }
noncomputable def f_X7_see (M_thrown : Int32) (M_seen : Int32) (M_plan : Nat → Int32) (M_seenPoint : Nat → Int32) (M_seenSum : Nat → Int32) (M_seenWas : Nat → Int32) (p1 : Int32) (p2 : Int32) (p3 : Int32) : Option (Int32 × Int32 × Int32 × (Nat → Int32) × (Nat → Int32) × (Nat → Int32)) := (f_X7_noPoint M_plan p1).bind (fun r2 => if r2 = 0 then ((f_X7_in (Int32.toInt64 p2) (0 : Int64) (999 : Int64)).bind (fun r5 => if r5 = 0 then (some ((-2 : Int32), (0 : Int32), M_seen, M_seenPoint, M_seenSum, M_seenWas)) else ((f_X7_in (Int32.toInt64 p3) (0 : Int64) (1 : Int64)).bind (fun r8 => if r8 = 0 then (some ((-2 : Int32), (0 : Int32), M_seen, M_seenPoint, M_seenSum, M_seenWas)) else (if M_seen = (6 : Int32) then (some ((-4 : Int32), (0 : Int32), M_seen, M_seenPoint, M_seenSum, M_seenWas)) else (if (M_seen < 0 ∨ 6 ≤ Int32.toNatClampNeg M_seen) then none else (if (M_seen < 0 ∨ 6 ≤ Int32.toNatClampNeg M_seen) then none else (if (M_seen < 0 ∨ 6 ≤ Int32.toNatClampNeg M_seen) then none else (nm_ (M_seen + (1 : Int32)) (fun t14 => some (t14, (0 : Int32), t14, (upd M_seenPoint (Int32.toNatClampNeg M_seen) p1), (upd M_seenSum (Int32.toNatClampNeg M_seen) p2), (upd M_seenWas (Int32.toNatClampNeg M_seen) p3)))))))))))) else (some ((-1 : Int32), (0 : Int32), M_seen, M_seenPoint, M_seenSum, M_seenWas)))
set_option maxHeartbeats 4000000 in
set_option maxRecDepth 100000 in
theorem c_X7_see (l : Launch) (D : va_G) (cI cC cZ : ClassId) (a_M a_M_text a_M_plan a_M_read a_M_readPage a_M_page a_M_trial a_M_book a_M_kept a_M_isKept a_M_seenPoint a_M_seenSum a_M_seenWas : Nat) (sz : Nat) (M_thrown : Int32) (M_textSize : Int32) (M_place : Int32) (M_doings : Int32) (M_seen : Int32) (M_seed : Int64) (M_bestSet : Int32) (M_text : Nat → Int32) (M_plan : Nat → Int32) (M_read : Nat → Int32) (M_readPage : Nat → Int32) (M_page : Nat → Int32) (M_trial : Nat → Int32) (M_book : Nat → Int32) (M_kept : Nat → Int32) (M_isKept : Nat → Int32) (M_seenPoint : Nat → Int32) (M_seenSum : Nat → Int32) (M_seenWas : Nat → Int32) (p1 : Int32) (p2 : Int32) (p3 : Int32) (rr : Int32) (u_M_thrown : Int32) (u_M_seen : Int32) (u_M_seenPoint : Nat → Int32) (u_M_seenSum : Nat → Int32) (u_M_seenWas : Nat → Int32) (hf : f_X7_see M_thrown M_seen M_plan M_seenPoint M_seenSum M_seenWas p1 p2 p3 = some (rr, u_M_thrown, u_M_seen, u_M_seenPoint, u_M_seenSum, u_M_seenWas)) : kMet l yX7_see cX7_see 4 (some .int) rm_X7_see D (kTY cI cC cZ) [.ref a_M, .int p1, .int p2, .int p3] (WD16 cI cC cZ a_M a_M_text a_M_plan a_M_read a_M_readPage a_M_page a_M_trial a_M_book a_M_kept a_M_isKept a_M_seenPoint a_M_seenSum a_M_seenWas M_thrown M_textSize M_place M_doings M_seen M_seed M_bestSet M_text M_plan M_read M_readPage M_page M_trial M_book M_kept M_isKept M_seenPoint M_seenSum M_seenWas) sz (kQI D (kTY cI cC cZ) (va_A (WD16 cI cC cZ a_M a_M_text a_M_plan a_M_read a_M_readPage a_M_page a_M_trial a_M_book a_M_kept a_M_isKept a_M_seenPoint a_M_seenSum a_M_seenWas M_thrown M_textSize M_place M_doings M_seen M_seed M_bestSet M_text M_plan M_read M_readPage M_page M_trial M_book M_kept M_isKept M_seenPoint M_seenSum M_seenWas) sz) rr (WD16 cI cC cZ a_M a_M_text a_M_plan a_M_read a_M_readPage a_M_page a_M_trial a_M_book a_M_kept a_M_isKept a_M_seenPoint a_M_seenSum a_M_seenWas u_M_thrown M_textSize M_place M_doings u_M_seen M_seed M_bestSet M_text M_plan M_read M_readPage M_page M_trial M_book M_kept M_isKept u_M_seenPoint u_M_seenSum u_M_seenWas)) := by
  refine kEnter (lv := [(0, .ref a_M), (1, .int p1), (2, .int p2), (3, .int p3)]) (own := RX7) (by decide) rfl (Nat.le_of_ble_eq_true rfl) rfl ?_
  intro p e s m below meth c hsz C0 hP hD hS ls hl
  generalize (va_A (WD16 cI cC cZ a_M a_M_text a_M_plan a_M_read a_M_readPage a_M_page a_M_trial a_M_book a_M_kept a_M_isKept a_M_seenPoint a_M_seenSum a_M_seenWas M_thrown M_textSize M_place M_doings M_seen M_seed M_bestSet M_text M_plan M_read M_readPage M_page M_trial M_book M_kept M_isKept M_seenPoint M_seenSum M_seenWas) sz) = A at C0 hD hS ⊢
  clear hsz hS
  obtain ⟨H, hHs⟩ : ∃ H : Heap, H = s.heap := ⟨_, rfl⟩
  have hS : va_S A s.heap H [] := by rw [hHs]; exact va_S.rf
  rw [← hHs] at hP ⊢
  obtain ⟨hx, hb, hr, hml, hown, hts, hK, hN, hA, hlocks, hF⟩ := id C0
  have h := hf
  unfold f_X7_see at h
  refine lv_aload_n hx hb dX7_see_0 rfl (lv_at hl 0 rfl) ?_
  refine lv_iconst (v := (0 : Int32)) hx hb dX7_see_1 (by decide) ?_
  refine va_put (D := D) (ci := 7) (v := .int (0 : Int32)) (ty := .int) (C := RX7) (T := TX7) (N := 19) hx hb hts inlX7 tyX7 tyX7_ok nmX7 hown hK hP hD hS 0 rfl rfl 0 (by decide) (hts _ kw_109) (fun _ h9 => h9) rfl (by decide +kernel) rfl rfl (Nat.le_of_ble_eq_true rfl) dX7_see_2 (fun H locs hP hD hS => ?_)
  have hP : va_P D vwCl (WD16 cI cC cZ a_M a_M_text a_M_plan a_M_read a_M_readPage a_M_page a_M_trial a_M_book a_M_kept a_M_isKept a_M_seenPoint a_M_seenSum a_M_seenWas (0 : Int32) M_textSize M_place M_doings M_seen M_seed M_bestSet M_text M_plan M_read M_readPage M_page M_trial M_book M_kept M_isKept M_seenPoint M_seenSum M_seenWas) H := hP
  have hD : va_D A (WD16 cI cC cZ a_M a_M_text a_M_plan a_M_read a_M_readPage a_M_page a_M_trial a_M_book a_M_kept a_M_isKept a_M_seenPoint a_M_seenSum a_M_seenWas (0 : Int32) M_textSize M_place M_doings M_seen M_seed M_bestSet M_text M_plan M_read M_readPage M_page M_trial M_book M_kept M_isKept M_seenPoint M_seenSum M_seenWas) := hD
  refine lv_aload_n hx hb dX7_see_5 rfl (lv_at hl 0 rfl) ?_
  refine lv_iload_n hx hb dX7_see_6 rfl (lv_at hl 1 rfl) ?_
  obtain ⟨r2, hc1, h⟩ := oc_bind h
  refine kro_i (wc := (WD16 cI cC cZ a_M a_M_text a_M_plan a_M_read a_M_readPage a_M_page a_M_trial a_M_book a_M_kept a_M_isKept a_M_seenPoint a_M_seenSum a_M_seenWas (0 : Int32) M_textSize M_place M_doings M_seen M_seed M_bestSet M_text M_plan M_read M_readPage M_page M_trial M_book M_kept M_isKept M_seenPoint M_seenSum M_seenWas)) C0 hP hD hS [0, 1, 2, 3, 4, 5, 6, 7, 8, 9, 10, 11, 12] rfl (kV (n := 1) (As := [.int p1]) (rest := []) (wc := (WD16 cI cC cZ a_M a_M_text a_M_plan a_M_read a_M_readPage a_M_page a_M_trial a_M_book a_M_kept a_M_isKept a_M_seenPoint a_M_seenSum a_M_seenWas (0 : Int32) M_textSize M_place M_doings M_seen M_seed M_bestSet M_text M_plan M_read M_readPage M_page M_trial M_book M_kept M_isKept M_seenPoint M_seenSum M_seenWas)) (C := RX7) C0 hP hD hS [0, 1, 2, 3, 4, 5, 6, 7, 8, 9, 10, 11, 12] rfl (by decide) (c_X7_noPoint l D cI cC cZ a_M a_M_text a_M_plan a_M_read a_M_readPage a_M_page a_M_trial a_M_book a_M_kept a_M_isKept a_M_seenPoint a_M_seenSum a_M_seenWas H.size (0 : Int32) M_textSize M_place M_doings M_seen M_seed M_bestSet M_text M_plan M_read M_readPage M_page M_trial M_book M_kept M_isKept M_seenPoint M_seenSum M_seenWas p1 r2 hc1) kw_357 kw_354 kw_355 kw_356 kw_5 (by decide +kernel) (by decide) rfl rfl rfl hl.1 rfl (Nat.le_of_ble_eq_true rfl) ⟨Nat.zero_le _, Nat.zero_le _⟩ dX7_see_7) (fun H locs hP hS => ?_)
  refine lv_if_eq (tgt := 15) hx hb dX7_see_10 (by decide) (fun c3 => ?_) (fun c3 => ?_)
  · have h := oc_t c3 h
    refine lv_iload_n hx hb dX7_see_15 rfl (lv_at hl 2 rfl) ?_
    refine lv_i2l hx hb dX7_see_16 rfl ?_
    refine lv_lconst (v := (0 : Int64)) hx hb dX7_see_17 (by decide) ?_
    refine lv_ldc2 (v := (999 : Int64)) hx hb hown (hts _ kw_681) dX7_see_18 ?_
    obtain ⟨r5, hc4, h⟩ := oc_bind h
    refine kro_i (wc := (WD0 cI cC cZ)) C0 hP hD hS [] rfl (kS (n := 3) (As := [.long (Int32.toInt64 p2), .long (0 : Int64), .long (999 : Int64)]) (rest := []) (wc := (WD0 cI cC cZ)) C0 hP hD hS [] rfl (by decide) (c_X7_in l D cI cC cZ  H.size  (Int32.toInt64 p2) (0 : Int64) (999 : Int64) r5 hc4) kw_114 kw_112 kw_113 kw_5 (by decide +kernel) (by decide) rfl hl.1 rfl (Nat.le_of_ble_eq_true rfl) ⟨Nat.zero_le _, Nat.zero_le _⟩ dX7_see_21) (fun H locs hP hS => ?_)
    refine lv_if_eq (tgt := 37) hx hb dX7_see_24 (by decide) (fun c6 => ?_) (fun c6 => ?_)
    · have h := oc_t c6 h
      refine lv_bipush (v := (-2 : Int32)) hx hb dX7_see_37 (by decide) ?_
      cases h
      exact kret_i C0 hP hD hS rfl dX7_see_39
    · have h := oc_f c6 h
      refine lv_iload_n hx hb dX7_see_27 rfl (lv_at hl 3 rfl) ?_
      refine lv_i2l hx hb dX7_see_28 rfl ?_
      refine lv_lconst (v := (0 : Int64)) hx hb dX7_see_29 (by decide) ?_
      refine lv_lconst (v := (1 : Int64)) hx hb dX7_see_30 (by decide) ?_
      obtain ⟨r8, hc7, h⟩ := oc_bind h
      refine kro_i (wc := (WD0 cI cC cZ)) C0 hP hD hS [] rfl (kS (n := 3) (As := [.long (Int32.toInt64 p3), .long (0 : Int64), .long (1 : Int64)]) (rest := []) (wc := (WD0 cI cC cZ)) C0 hP hD hS [] rfl (by decide) (c_X7_in l D cI cC cZ  H.size  (Int32.toInt64 p3) (0 : Int64) (1 : Int64) r8 hc7) kw_114 kw_112 kw_113 kw_5 (by decide +kernel) (by decide) rfl hl.1 rfl (Nat.le_of_ble_eq_true rfl) ⟨Nat.zero_le _, Nat.zero_le _⟩ dX7_see_31) (fun H locs hP hS => ?_)
      refine lv_if_ne (tgt := 40) hx hb dX7_see_34 (by decide) (fun c9 => ?_) (fun c9 => ?_)
      · have h := oc_f c9 h
        refine lv_aload_n hx hb dX7_see_40 rfl (lv_at hl 0 rfl) ?_
        refine va_get (D := D) (ci := 7) (v := .int M_seen) (C := RX7) (T := TX7) (N := 19) hx hb hts inlX7 hown hK hP 0 rfl rfl 13 (by decide) (hts _ kw_682) (fun _ h9 => h9) rfl dX7_see_41 ?_
        refine lv_bipush (v := (6 : Int32)) hx hb dX7_see_44 (by decide) ?_
        refine lv_icmp_ne (tgt := 52) hx hb dX7_see_46 (by decide) (fun c10 => ?_) (fun c10 => ?_)
        · have h := oc_f c10 h
          refine lv_aload_n hx hb dX7_see_52 rfl (lv_at hl 0 rfl) ?_
          refine va_get (D := D) (ci := 7) (v := .ref a_M_seenPoint) (C := RX7) (T := TX7) (N := 19) hx hb hts inlX7 hown hK hP 0 rfl rfl 14 (by decide) (hts _ kw_93) (fun _ h9 => h9) rfl dX7_see_53 ?_
          refine lv_aload_n hx hb dX7_see_56 rfl (lv_at hl 0 rfl) ?_
          refine va_get (D := D) (ci := 7) (v := .int M_seen) (C := RX7) (T := TX7) (N := 19) hx hb hts inlX7 hown hK hP 0 rfl rfl 13 (by decide) (hts _ kw_682) (fun _ h9 => h9) rfl dX7_see_57 ?_
          refine lv_iload_n hx hb dX7_see_60 rfl (lv_at hl 1 rfl) ?_
          obtain ⟨hb11, h⟩ := oc_else h
          refine va_iast hx hb hK hP hD hS 10 0 rfl rfl hb11 dX7_see_61 (fun H locs hP hD hS => ?_)
          have hP : va_P D vwCl (WD16 cI cC cZ a_M a_M_text a_M_plan a_M_read a_M_readPage a_M_page a_M_trial a_M_book a_M_kept a_M_isKept a_M_seenPoint a_M_seenSum a_M_seenWas (0 : Int32) M_textSize M_place M_doings M_seen M_seed M_bestSet M_text M_plan M_read M_readPage M_page M_trial M_book M_kept M_isKept (upd M_seenPoint (Int32.toNatClampNeg M_seen) p1) M_seenSum M_seenWas) H := hP
          have hD : va_D A (WD16 cI cC cZ a_M a_M_text a_M_plan a_M_read a_M_readPage a_M_page a_M_trial a_M_book a_M_kept a_M_isKept a_M_seenPoint a_M_seenSum a_M_seenWas (0 : Int32) M_textSize M_place M_doings M_seen M_seed M_bestSet M_text M_plan M_read M_readPage M_page M_trial M_book M_kept M_isKept (upd M_seenPoint (Int32.toNatClampNeg M_seen) p1) M_seenSum M_seenWas) := hD
          refine lv_aload_n hx hb dX7_see_62 rfl (lv_at hl 0 rfl) ?_
          refine va_get (D := D) (ci := 7) (v := .ref a_M_seenSum) (C := RX7) (T := TX7) (N := 19) hx hb hts inlX7 hown hK hP 0 rfl rfl 15 (by decide) (hts _ kw_94) (fun _ h9 => h9) rfl dX7_see_63 ?_
          refine lv_aload_n hx hb dX7_see_66 rfl (lv_at hl 0 rfl) ?_
          refine va_get (D := D) (ci := 7) (v := .int M_seen) (C := RX7) (T := TX7) (N := 19) hx hb hts inlX7 hown hK hP 0 rfl rfl 13 (by decide) (hts _ kw_682) (fun _ h9 => h9) rfl dX7_see_67 ?_
          refine lv_iload_n hx hb dX7_see_70 rfl (lv_at hl 2 rfl) ?_
          obtain ⟨hb12, h⟩ := oc_else h
          refine va_iast hx hb hK hP hD hS 11 0 rfl rfl hb12 dX7_see_71 (fun H locs hP hD hS => ?_)
          have hP : va_P D vwCl (WD16 cI cC cZ a_M a_M_text a_M_plan a_M_read a_M_readPage a_M_page a_M_trial a_M_book a_M_kept a_M_isKept a_M_seenPoint a_M_seenSum a_M_seenWas (0 : Int32) M_textSize M_place M_doings M_seen M_seed M_bestSet M_text M_plan M_read M_readPage M_page M_trial M_book M_kept M_isKept (upd M_seenPoint (Int32.toNatClampNeg M_seen) p1) (upd M_seenSum (Int32.toNatClampNeg M_seen) p2) M_seenWas) H := hP
          have hD : va_D A (WD16 cI cC cZ a_M a_M_text a_M_plan a_M_read a_M_readPage a_M_page a_M_trial a_M_book a_M_kept a_M_isKept a_M_seenPoint a_M_seenSum a_M_seenWas (0 : Int32) M_textSize M_place M_doings M_seen M_seed M_bestSet M_text M_plan M_read M_readPage M_page M_trial M_book M_kept M_isKept (upd M_seenPoint (Int32.toNatClampNeg M_seen) p1) (upd M_seenSum (Int32.toNatClampNeg M_seen) p2) M_seenWas) := hD
          refine lv_aload_n hx hb dX7_see_72 rfl (lv_at hl 0 rfl) ?_
          refine va_get (D := D) (ci := 7) (v := .ref a_M_seenWas) (C := RX7) (T := TX7) (N := 19) hx hb hts inlX7 hown hK hP 0 rfl rfl 16 (by decide) (hts _ kw_95) (fun _ h9 => h9) rfl dX7_see_73 ?_
          refine lv_aload_n hx hb dX7_see_76 rfl (lv_at hl 0 rfl) ?_
          refine va_get (D := D) (ci := 7) (v := .int M_seen) (C := RX7) (T := TX7) (N := 19) hx hb hts inlX7 hown hK hP 0 rfl rfl 13 (by decide) (hts _ kw_682) (fun _ h9 => h9) rfl dX7_see_77 ?_
          refine lv_iload_n hx hb dX7_see_80 rfl (lv_at hl 3 rfl) ?_
          obtain ⟨hb13, h⟩ := oc_else h
          refine va_iast hx hb hK hP hD hS 12 0 rfl rfl hb13 dX7_see_81 (fun H locs hP hD hS => ?_)
          have hP : va_P D vwCl (WD16 cI cC cZ a_M a_M_text a_M_plan a_M_read a_M_readPage a_M_page a_M_trial a_M_book a_M_kept a_M_isKept a_M_seenPoint a_M_seenSum a_M_seenWas (0 : Int32) M_textSize M_place M_doings M_seen M_seed M_bestSet M_text M_plan M_read M_readPage M_page M_trial M_book M_kept M_isKept (upd M_seenPoint (Int32.toNatClampNeg M_seen) p1) (upd M_seenSum (Int32.toNatClampNeg M_seen) p2) (upd M_seenWas (Int32.toNatClampNeg M_seen) p3)) H := hP
          have hD : va_D A (WD16 cI cC cZ a_M a_M_text a_M_plan a_M_read a_M_readPage a_M_page a_M_trial a_M_book a_M_kept a_M_isKept a_M_seenPoint a_M_seenSum a_M_seenWas (0 : Int32) M_textSize M_place M_doings M_seen M_seed M_bestSet M_text M_plan M_read M_readPage M_page M_trial M_book M_kept M_isKept (upd M_seenPoint (Int32.toNatClampNeg M_seen) p1) (upd M_seenSum (Int32.toNatClampNeg M_seen) p2) (upd M_seenWas (Int32.toNatClampNeg M_seen) p3)) := hD
          refine lv_aload_n hx hb dX7_see_82 rfl (lv_at hl 0 rfl) ?_
          refine lv_dup hx hb dX7_see_83 rfl ?_
          refine va_get (D := D) (ci := 7) (v := .int M_seen) (C := RX7) (T := TX7) (N := 19) hx hb hts inlX7 hown hK hP 0 rfl rfl 13 (by decide) (hts _ kw_682) (fun _ h9 => h9) rfl dX7_see_84 ?_
          refine lv_iconst (v := (1 : Int32)) hx hb dX7_see_87 (by decide) ?_
          refine lv_iadd hx hb dX7_see_88 ?_
          refine lv_topi (fun t14 e_t14 => ?_)
          have h := oc_nm e_t14 h
          refine va_put (D := D) (ci := 7) (v := .int t14) (ty := .int) (C := RX7) (T := TX7) (N := 19) hx hb hts inlX7 tyX7 tyX7_ok nmX7 hown hK hP hD hS 0 rfl rfl 13 (by decide) (hts _ kw_682) (fun _ h9 => h9) rfl (by decide +kernel) rfl rfl (Nat.le_of_ble_eq_true rfl) dX7_see_89 (fun H locs hP hD hS => ?_)
          have hP : va_P D vwCl (WD16 cI cC cZ a_M a_M_text a_M_plan a_M_read a_M_readPage a_M_page a_M_trial a_M_book a_M_kept a_M_isKept a_M_seenPoint a_M_seenSum a_M_seenWas (0 : Int32) M_textSize M_place M_doings t14 M_seed M_bestSet M_text M_plan M_read M_readPage M_page M_trial M_book M_kept M_isKept (upd M_seenPoint (Int32.toNatClampNeg M_seen) p1) (upd M_seenSum (Int32.toNatClampNeg M_seen) p2) (upd M_seenWas (Int32.toNatClampNeg M_seen) p3)) H := hP
          have hD : va_D A (WD16 cI cC cZ a_M a_M_text a_M_plan a_M_read a_M_readPage a_M_page a_M_trial a_M_book a_M_kept a_M_isKept a_M_seenPoint a_M_seenSum a_M_seenWas (0 : Int32) M_textSize M_place M_doings t14 M_seed M_bestSet M_text M_plan M_read M_readPage M_page M_trial M_book M_kept M_isKept (upd M_seenPoint (Int32.toNatClampNeg M_seen) p1) (upd M_seenSum (Int32.toNatClampNeg M_seen) p2) (upd M_seenWas (Int32.toNatClampNeg M_seen) p3)) := hD
          refine lv_aload_n hx hb dX7_see_92 rfl (lv_at hl 0 rfl) ?_
          refine va_get (D := D) (ci := 7) (v := .int t14) (C := RX7) (T := TX7) (N := 19) hx hb hts inlX7 hown hK hP 0 rfl rfl 13 (by decide) (hts _ kw_682) (fun _ h9 => h9) rfl dX7_see_93 ?_
          cases h
          exact kret_i C0 hP hD hS rfl dX7_see_96
        · have h := oc_t c10 h
          refine lv_bipush (v := (-4 : Int32)) hx hb dX7_see_49 (by decide) ?_
          cases h
          exact kret_i C0 hP hD hS rfl dX7_see_51
      · have h := oc_t c9 h
        refine lv_bipush (v := (-2 : Int32)) hx hb dX7_see_37 (by decide) ?_
        cases h
        exact kret_i C0 hP hD hS rfl dX7_see_39
  · have h := oc_f c3 h
    refine lv_iconst (v := (-1 : Int32)) hx hb dX7_see_13 (by decide) ?_
    cases h
    exact kret_i C0 hP hD hS rfl dX7_see_14
abbrev rm_X7_unsee : Room := { frames := 0, cells := 0, slots := 0, locals := 0 }
noncomputable def f_X7_unsee (M_thrown : Int32) (M_seen : Int32)  : Option (Int32 × Int32 × Int32) := some (M_seen, (0 : Int32), (0 : Int32))
set_option maxHeartbeats 4000000 in
set_option maxRecDepth 100000 in
theorem c_X7_unsee (l : Launch) (D : va_G) (cI cC cZ : ClassId) (a_M a_M_text a_M_plan a_M_read a_M_readPage a_M_page a_M_trial a_M_book a_M_kept a_M_isKept a_M_seenPoint a_M_seenSum a_M_seenWas : Nat) (sz : Nat) (M_thrown : Int32) (M_textSize : Int32) (M_place : Int32) (M_doings : Int32) (M_seen : Int32) (M_seed : Int64) (M_bestSet : Int32) (M_text : Nat → Int32) (M_plan : Nat → Int32) (M_read : Nat → Int32) (M_readPage : Nat → Int32) (M_page : Nat → Int32) (M_trial : Nat → Int32) (M_book : Nat → Int32) (M_kept : Nat → Int32) (M_isKept : Nat → Int32) (M_seenPoint : Nat → Int32) (M_seenSum : Nat → Int32) (M_seenWas : Nat → Int32) (rr : Int32) (u_M_thrown : Int32) (u_M_seen : Int32) (hf : f_X7_unsee M_thrown M_seen = some (rr, u_M_thrown, u_M_seen)) : kMet l yX7_unsee cX7_unsee 2 (some .int) rm_X7_unsee D (kTY cI cC cZ) [.ref a_M] (WD16 cI cC cZ a_M a_M_text a_M_plan a_M_read a_M_readPage a_M_page a_M_trial a_M_book a_M_kept a_M_isKept a_M_seenPoint a_M_seenSum a_M_seenWas M_thrown M_textSize M_place M_doings M_seen M_seed M_bestSet M_text M_plan M_read M_readPage M_page M_trial M_book M_kept M_isKept M_seenPoint M_seenSum M_seenWas) sz (kQI D (kTY cI cC cZ) (va_A (WD16 cI cC cZ a_M a_M_text a_M_plan a_M_read a_M_readPage a_M_page a_M_trial a_M_book a_M_kept a_M_isKept a_M_seenPoint a_M_seenSum a_M_seenWas M_thrown M_textSize M_place M_doings M_seen M_seed M_bestSet M_text M_plan M_read M_readPage M_page M_trial M_book M_kept M_isKept M_seenPoint M_seenSum M_seenWas) sz) rr (WD16 cI cC cZ a_M a_M_text a_M_plan a_M_read a_M_readPage a_M_page a_M_trial a_M_book a_M_kept a_M_isKept a_M_seenPoint a_M_seenSum a_M_seenWas u_M_thrown M_textSize M_place M_doings u_M_seen M_seed M_bestSet M_text M_plan M_read M_readPage M_page M_trial M_book M_kept M_isKept M_seenPoint M_seenSum M_seenWas)) := by
  refine kEnter (lv := [(0, .ref a_M)]) (own := RX7) (by decide) rfl (Nat.le_of_ble_eq_true rfl) rfl ?_
  intro p e s m below meth c hsz C0 hP hD hS ls hl
  generalize (va_A (WD16 cI cC cZ a_M a_M_text a_M_plan a_M_read a_M_readPage a_M_page a_M_trial a_M_book a_M_kept a_M_isKept a_M_seenPoint a_M_seenSum a_M_seenWas M_thrown M_textSize M_place M_doings M_seen M_seed M_bestSet M_text M_plan M_read M_readPage M_page M_trial M_book M_kept M_isKept M_seenPoint M_seenSum M_seenWas) sz) = A at C0 hD hS ⊢
  clear hsz hS
  obtain ⟨H, hHs⟩ : ∃ H : Heap, H = s.heap := ⟨_, rfl⟩
  have hS : va_S A s.heap H [] := by rw [hHs]; exact va_S.rf
  rw [← hHs] at hP ⊢
  obtain ⟨hx, hb, hr, hml, hown, hts, hK, hN, hA, hlocks, hF⟩ := id C0
  have h := hf
  unfold f_X7_unsee at h
  refine lv_aload_n hx hb dX7_unsee_0 rfl (lv_at hl 0 rfl) ?_
  refine lv_iconst (v := (0 : Int32)) hx hb dX7_unsee_1 (by decide) ?_
  refine va_put (D := D) (ci := 7) (v := .int (0 : Int32)) (ty := .int) (C := RX7) (T := TX7) (N := 19) hx hb hts inlX7 tyX7 tyX7_ok nmX7 hown hK hP hD hS 0 rfl rfl 0 (by decide) (hts _ kw_109) (fun _ h9 => h9) rfl (by decide +kernel) rfl rfl (Nat.le_of_ble_eq_true rfl) dX7_unsee_2 (fun H locs hP hD hS => ?_)
  have hP : va_P D vwCl (WD16 cI cC cZ a_M a_M_text a_M_plan a_M_read a_M_readPage a_M_page a_M_trial a_M_book a_M_kept a_M_isKept a_M_seenPoint a_M_seenSum a_M_seenWas (0 : Int32) M_textSize M_place M_doings M_seen M_seed M_bestSet M_text M_plan M_read M_readPage M_page M_trial M_book M_kept M_isKept M_seenPoint M_seenSum M_seenWas) H := hP
  have hD : va_D A (WD16 cI cC cZ a_M a_M_text a_M_plan a_M_read a_M_readPage a_M_page a_M_trial a_M_book a_M_kept a_M_isKept a_M_seenPoint a_M_seenSum a_M_seenWas (0 : Int32) M_textSize M_place M_doings M_seen M_seed M_bestSet M_text M_plan M_read M_readPage M_page M_trial M_book M_kept M_isKept M_seenPoint M_seenSum M_seenWas) := hD
  refine lv_aload_n hx hb dX7_unsee_5 rfl (lv_at hl 0 rfl) ?_
  refine va_get (D := D) (ci := 7) (v := .int M_seen) (C := RX7) (T := TX7) (N := 19) hx hb hts inlX7 hown hK hP 0 rfl rfl 13 (by decide) (hts _ kw_682) (fun _ h9 => h9) rfl dX7_unsee_6 ?_
  refine lv_istore_n (lv' := [(1, .int M_seen), (0, .ref a_M)]) hx hb dX7_unsee_9 rfl hl (by decide) rfl (fun ls hl => ?_)
  refine lv_aload_n hx hb dX7_unsee_10 rfl (lv_at hl 1 rfl) ?_
  refine lv_iconst (v := (0 : Int32)) hx hb dX7_unsee_11 (by decide) ?_
  refine va_put (D := D) (ci := 7) (v := .int (0 : Int32)) (ty := .int) (C := RX7) (T := TX7) (N := 19) hx hb hts inlX7 tyX7 tyX7_ok nmX7 hown hK hP hD hS 0 rfl rfl 13 (by decide) (hts _ kw_682) (fun _ h9 => h9) rfl (by decide +kernel) rfl rfl (Nat.le_of_ble_eq_true rfl) dX7_unsee_12 (fun H locs hP hD hS => ?_)
  have hP : va_P D vwCl (WD16 cI cC cZ a_M a_M_text a_M_plan a_M_read a_M_readPage a_M_page a_M_trial a_M_book a_M_kept a_M_isKept a_M_seenPoint a_M_seenSum a_M_seenWas (0 : Int32) M_textSize M_place M_doings (0 : Int32) M_seed M_bestSet M_text M_plan M_read M_readPage M_page M_trial M_book M_kept M_isKept M_seenPoint M_seenSum M_seenWas) H := hP
  have hD : va_D A (WD16 cI cC cZ a_M a_M_text a_M_plan a_M_read a_M_readPage a_M_page a_M_trial a_M_book a_M_kept a_M_isKept a_M_seenPoint a_M_seenSum a_M_seenWas (0 : Int32) M_textSize M_place M_doings (0 : Int32) M_seed M_bestSet M_text M_plan M_read M_readPage M_page M_trial M_book M_kept M_isKept M_seenPoint M_seenSum M_seenWas) := hD
  refine lv_iload_n hx hb dX7_unsee_15 rfl (lv_at hl 0 rfl) ?_
  cases h
  exact kret_i C0 hP hD hS rfl dX7_unsee_16
abbrev rm_X7_isSo : Room := { frames := 7, cells := 0, slots := 0, locals := 181 }
noncomputable def bk_X7_isSo_59  (s0 : Int32) (s1 : Int32) : Option (Int32) := if s1 = s0 then (some (1 : Int32)) else (some (0 : Int32))
set_option maxHeartbeats 4000000 in
set_option maxRecDepth 100000 in
theorem wk_X7_isSo_59 {p : Program} {l : Launch} {e : Env} {s : State} {m : MethodId} {args : Array Value} {below : List Frame} {meth : Method} {c : Code} {D : va_G} {cI cC cZ : ClassId} {A : Nat → Prop} {a_M a_M_text a_M_plan a_M_read a_M_readPage a_M_page a_M_trial a_M_book a_M_kept a_M_isKept a_M_seenPoint a_M_seenSum a_M_seenWas : Nat} {M_thrown : Int32} {M_textSize : Int32} {M_place : Int32} {M_doings : Int32} {M_seen : Int32} {M_seed : Int64} {M_bestSet : Int32} {M_text : Nat → Int32} {M_plan : Nat → Int32} {M_read : Nat → Int32} {M_readPage : Nat → Int32} {M_page : Nat → Int32} {M_trial : Nat → Int32} {M_book : Nat → Int32} {M_kept : Nat → Int32} {M_isKept : Nat → Int32} {M_seenPoint : Nat → Int32} {M_seenSum : Nat → Int32} {M_seenWas : Nat → Int32} {s0 : Int32} {s1 : Int32}  {rr : Int32} (C0 : kC p s m args meth c D (kTY cI cC cZ) cX7_isSo (some .boolean) 3 RX7 A)  (h : bk_X7_isSo_59  s0 s1 = some rr) {H : Heap} {locs : List Loc} (hP : va_P D vwCl (WD16 cI cC cZ a_M a_M_text a_M_plan a_M_read a_M_readPage a_M_page a_M_trial a_M_book a_M_kept a_M_isKept a_M_seenPoint a_M_seenSum a_M_seenWas M_thrown M_textSize M_place M_doings M_seen M_seed M_bestSet M_text M_plan M_read M_readPage M_page M_trial M_book M_kept M_isKept M_seenPoint M_seenSum M_seenWas) H) (hD : va_D A (WD16 cI cC cZ a_M a_M_text a_M_plan a_M_read a_M_readPage a_M_page a_M_trial a_M_book a_M_kept a_M_isKept a_M_seenPoint a_M_seenSum a_M_seenWas M_thrown M_textSize M_place M_doings M_seen M_seed M_bestSet M_text M_plan M_read M_readPage M_page M_trial M_book M_kept M_isKept M_seenPoint M_seenSum M_seenWas)) (hS : va_S A s.heap H locs) {ls : Array Slot} (hl : lv_has ls 3 []) : W p l e rm_X7_isSo s m args below meth c H locs 0 0 (MQ below (kQI D (kTY cI cC cZ) A rr (WD16 cI cC cZ a_M a_M_text a_M_plan a_M_read a_M_readPage a_M_page a_M_trial a_M_book a_M_kept a_M_isKept a_M_seenPoint a_M_seenSum a_M_seenWas M_thrown M_textSize M_place M_doings M_seen M_seed M_bestSet M_text M_plan M_read M_readPage M_page M_trial M_book M_kept M_isKept M_seenPoint M_seenSum M_seenWas)) args s 0 0 A) (F0 m 59 ls [.int s0, .int s1]) := by
  obtain ⟨hx, hb, hr, hml, hown, hts, hK, hN, hA, hlocks, hF⟩ := id C0
  unfold bk_X7_isSo_59 at h
  refine lv_icmp_ne (tgt := 66) hx hb dX7_isSo_59 (by decide) (fun c1 => ?_) (fun c1 => ?_)
  · have h := oc_f c1 h
    refine lv_iconst (v := (0 : Int32)) hx hb dX7_isSo_66 (by decide) ?_
    cases h
    exact kret_i C0 hP hD hS (by decide) dX7_isSo_67
  · have h := oc_t c1 h
    refine lv_iconst (v := (1 : Int32)) hx hb dX7_isSo_62 (by decide) ?_
    refine lv_goto (tgt := 67) hx hb dX7_isSo_63 (by decide) ?_
    cases h
    exact kret_i C0 hP hD hS (by decide) dX7_isSo_67
noncomputable def bk_X7_isSo_44  (M_seenWas : Nat → Int32) (p2 : Int32) (s0 : Int32) : Option (Int32) := if (p2 < 0 ∨ 6 ≤ Int32.toNatClampNeg p2) then none else (if (M_seenWas (Int32.toNatClampNeg p2)) = (1 : Int32) then (bk_X7_isSo_59  (1 : Int32) s0) else (bk_X7_isSo_59  (0 : Int32) s0))
set_option maxHeartbeats 4000000 in
set_option maxRecDepth 100000 in
theorem wk_X7_isSo_44 {p : Program} {l : Launch} {e : Env} {s : State} {m : MethodId} {args : Array Value} {below : List Frame} {meth : Method} {c : Code} {D : va_G} {cI cC cZ : ClassId} {A : Nat → Prop} {a_M a_M_text a_M_plan a_M_read a_M_readPage a_M_page a_M_trial a_M_book a_M_kept a_M_isKept a_M_seenPoint a_M_seenSum a_M_seenWas : Nat} {M_thrown : Int32} {M_textSize : Int32} {M_place : Int32} {M_doings : Int32} {M_seen : Int32} {M_seed : Int64} {M_bestSet : Int32} {M_text : Nat → Int32} {M_plan : Nat → Int32} {M_read : Nat → Int32} {M_readPage : Nat → Int32} {M_page : Nat → Int32} {M_trial : Nat → Int32} {M_book : Nat → Int32} {M_kept : Nat → Int32} {M_isKept : Nat → Int32} {M_seenPoint : Nat → Int32} {M_seenSum : Nat → Int32} {M_seenWas : Nat → Int32} {p2 : Int32} {s0 : Int32}  {rr : Int32} (C0 : kC p s m args meth c D (kTY cI cC cZ) cX7_isSo (some .boolean) 3 RX7 A)  (h : bk_X7_isSo_44  M_seenWas p2 s0 = some rr) {H : Heap} {locs : List Loc} (hP : va_P D vwCl (WD16 cI cC cZ a_M a_M_text a_M_plan a_M_read a_M_readPage a_M_page a_M_trial a_M_book a_M_kept a_M_isKept a_M_seenPoint a_M_seenSum a_M_seenWas M_thrown M_textSize M_place M_doings M_seen M_seed M_bestSet M_text M_plan M_read M_readPage M_page M_trial M_book M_kept M_isKept M_seenPoint M_seenSum M_seenWas) H) (hD : va_D A (WD16 cI cC cZ a_M a_M_text a_M_plan a_M_read a_M_readPage a_M_page a_M_trial a_M_book a_M_kept a_M_isKept a_M_seenPoint a_M_seenSum a_M_seenWas M_thrown M_textSize M_place M_doings M_seen M_seed M_bestSet M_text M_plan M_read M_readPage M_page M_trial M_book M_kept M_isKept M_seenPoint M_seenSum M_seenWas)) (hS : va_S A s.heap H locs) {ls : Array Slot} (hl : lv_has ls 3 [(0, .ref a_M), (2, .int p2)]) : W p l e rm_X7_isSo s m args below meth c H locs 0 0 (MQ below (kQI D (kTY cI cC cZ) A rr (WD16 cI cC cZ a_M a_M_text a_M_plan a_M_read a_M_readPage a_M_page a_M_trial a_M_book a_M_kept a_M_isKept a_M_seenPoint a_M_seenSum a_M_seenWas M_thrown M_textSize M_place M_doings M_seen M_seed M_bestSet M_text M_plan M_read M_readPage M_page M_trial M_book M_kept M_isKept M_seenPoint M_seenSum M_seenWas)) args s 0 0 A) (F0 m 44 ls [.int s0]) := by
  obtain ⟨hx, hb, hr, hml, hown, hts, hK, hN, hA, hlocks, hF⟩ := id C0
  unfold bk_X7_isSo_44 at h
  refine lv_aload_n hx hb dX7_isSo_44 rfl (lv_at hl 0 rfl) ?_
  refine va_get (D := D) (ci := 7) (v := .ref a_M_seenWas) (C := RX7) (T := TX7) (N := 19) hx hb hts inlX7 hown hK hP 0 rfl rfl 16 (by decide) (hts _ kw_95) (fun _ h9 => h9) rfl dX7_isSo_45 ?_
  refine lv_iload_n hx hb dX7_isSo_48 rfl (lv_at hl 1 rfl) ?_
  obtain ⟨hb1, h⟩ := oc_else h
  refine va_iald hx hb hK hP 12 0 rfl rfl hb1 dX7_isSo_49 ?_
  refine lv_iconst (v := (1 : Int32)) hx hb dX7_isSo_50 (by decide) ?_
  refine lv_icmp_ne (tgt := 58) hx hb dX7_isSo_51 (by decide) (fun c2 => ?_) (fun c2 => ?_)
  · have h := oc_f c2 h
    refine lv_iconst (v := (0 : Int32)) hx hb dX7_isSo_58 (by decide) ?_
    exact wk_X7_isSo_59 C0  h hP hD hS (lv_sub hl [] rfl)
  · have h := oc_t c2 h
    refine lv_iconst (v := (1 : Int32)) hx hb dX7_isSo_54 (by decide) ?_
    refine lv_goto (tgt := 59) hx hb dX7_isSo_55 (by decide) ?_
    exact wk_X7_isSo_59 C0  h hP hD hS (lv_sub hl [] rfl)
noncomputable def f_X7_isSo (M_plan : Nat → Int32) (M_page : Nat → Int32) (M_seenPoint : Nat → Int32) (M_seenSum : Nat → Int32) (M_seenWas : Nat → Int32) (p1 : Int32) (p2 : Int32) : Option (Int32) := if (p2 < 0 ∨ 6 ≤ Int32.toNatClampNeg p2) then none else ((f_X7_noPoint M_plan (M_seenPoint (Int32.toNatClampNeg p2))).bind (fun r3 => if r3 = 0 then (if (p2 < 0 ∨ 6 ≤ Int32.toNatClampNeg p2) then none else ((f_X7_sumBy M_plan (M_seenPoint (Int32.toNatClampNeg p2)) p1 (M_page (Int32.toNatClampNeg (2 : Int32)))).bind (fun r7 => if (p2 < 0 ∨ 6 ≤ Int32.toNatClampNeg p2) then none else (if r7 < (M_seenSum (Int32.toNatClampNeg p2)) then (bk_X7_isSo_44  M_seenWas p2 (0 : Int32)) else (bk_X7_isSo_44  M_seenWas p2 (1 : Int32)))))) else (some (1 : Int32))))
set_option maxHeartbeats 4000000 in
set_option maxRecDepth 100000 in
theorem c_X7_isSo (l : Launch) (D : va_G) (cI cC cZ : ClassId) (a_M a_M_text a_M_plan a_M_read a_M_readPage a_M_page a_M_trial a_M_book a_M_kept a_M_isKept a_M_seenPoint a_M_seenSum a_M_seenWas : Nat) (sz : Nat) (M_thrown : Int32) (M_textSize : Int32) (M_place : Int32) (M_doings : Int32) (M_seen : Int32) (M_seed : Int64) (M_bestSet : Int32) (M_text : Nat → Int32) (M_plan : Nat → Int32) (M_read : Nat → Int32) (M_readPage : Nat → Int32) (M_page : Nat → Int32) (M_trial : Nat → Int32) (M_book : Nat → Int32) (M_kept : Nat → Int32) (M_isKept : Nat → Int32) (M_seenPoint : Nat → Int32) (M_seenSum : Nat → Int32) (M_seenWas : Nat → Int32) (p1 : Int32) (p2 : Int32) (rr : Int32) (hf : f_X7_isSo M_plan M_page M_seenPoint M_seenSum M_seenWas p1 p2 = some rr) : kMet l yX7_isSo cX7_isSo 3 (some .boolean) rm_X7_isSo D (kTY cI cC cZ) [.ref a_M, .int p1, .int p2] (WD16 cI cC cZ a_M a_M_text a_M_plan a_M_read a_M_readPage a_M_page a_M_trial a_M_book a_M_kept a_M_isKept a_M_seenPoint a_M_seenSum a_M_seenWas M_thrown M_textSize M_place M_doings M_seen M_seed M_bestSet M_text M_plan M_read M_readPage M_page M_trial M_book M_kept M_isKept M_seenPoint M_seenSum M_seenWas) sz (kQI D (kTY cI cC cZ) (va_A (WD16 cI cC cZ a_M a_M_text a_M_plan a_M_read a_M_readPage a_M_page a_M_trial a_M_book a_M_kept a_M_isKept a_M_seenPoint a_M_seenSum a_M_seenWas M_thrown M_textSize M_place M_doings M_seen M_seed M_bestSet M_text M_plan M_read M_readPage M_page M_trial M_book M_kept M_isKept M_seenPoint M_seenSum M_seenWas) sz) rr (WD16 cI cC cZ a_M a_M_text a_M_plan a_M_read a_M_readPage a_M_page a_M_trial a_M_book a_M_kept a_M_isKept a_M_seenPoint a_M_seenSum a_M_seenWas M_thrown M_textSize M_place M_doings M_seen M_seed M_bestSet M_text M_plan M_read M_readPage M_page M_trial M_book M_kept M_isKept M_seenPoint M_seenSum M_seenWas)) := by
  refine kEnter (lv := [(0, .ref a_M), (1, .int p1), (2, .int p2)]) (own := RX7) (by decide) rfl (Nat.le_of_ble_eq_true rfl) rfl ?_
  intro p e s m below meth c hsz C0 hP hD hS ls hl
  generalize (va_A (WD16 cI cC cZ a_M a_M_text a_M_plan a_M_read a_M_readPage a_M_page a_M_trial a_M_book a_M_kept a_M_isKept a_M_seenPoint a_M_seenSum a_M_seenWas M_thrown M_textSize M_place M_doings M_seen M_seed M_bestSet M_text M_plan M_read M_readPage M_page M_trial M_book M_kept M_isKept M_seenPoint M_seenSum M_seenWas) sz) = A at C0 hD hS ⊢
  clear hsz hS
  obtain ⟨H, hHs⟩ : ∃ H : Heap, H = s.heap := ⟨_, rfl⟩
  have hS : va_S A s.heap H [] := by rw [hHs]; exact va_S.rf
  rw [← hHs] at hP ⊢
  obtain ⟨hx, hb, hr, hml, hown, hts, hK, hN, hA, hlocks, hF⟩ := id C0
  have h := hf
  unfold f_X7_isSo at h
  refine lv_aload_n hx hb dX7_isSo_0 rfl (lv_at hl 0 rfl) ?_
  refine lv_aload_n hx hb dX7_isSo_1 rfl (lv_at hl 0 rfl) ?_
  refine va_get (D := D) (ci := 7) (v := .ref a_M_seenPoint) (C := RX7) (T := TX7) (N := 19) hx hb hts inlX7 hown hK hP 0 rfl rfl 14 (by decide) (hts _ kw_93) (fun _ h9 => h9) rfl dX7_isSo_2 ?_
  refine lv_iload_n hx hb dX7_isSo_5 rfl (lv_at hl 2 rfl) ?_
  obtain ⟨hb1, h⟩ := oc_else h
  refine va_iald hx hb hK hP 10 0 rfl rfl hb1 dX7_isSo_6 ?_
  obtain ⟨r3, hc2, h⟩ := oc_bind h
  refine kro_i (wc := (WD16 cI cC cZ a_M a_M_text a_M_plan a_M_read a_M_readPage a_M_page a_M_trial a_M_book a_M_kept a_M_isKept a_M_seenPoint a_M_seenSum a_M_seenWas M_thrown M_textSize M_place M_doings M_seen M_seed M_bestSet M_text M_plan M_read M_readPage M_page M_trial M_book M_kept M_isKept M_seenPoint M_seenSum M_seenWas)) C0 hP hD hS [0, 1, 2, 3, 4, 5, 6, 7, 8, 9, 10, 11, 12] rfl (kV (n := 1) (As := [.int (M_seenPoint (Int32.toNatClampNeg p2))]) (rest := []) (wc := (WD16 cI cC cZ a_M a_M_text a_M_plan a_M_read a_M_readPage a_M_page a_M_trial a_M_book a_M_kept a_M_isKept a_M_seenPoint a_M_seenSum a_M_seenWas M_thrown M_textSize M_place M_doings M_seen M_seed M_bestSet M_text M_plan M_read M_readPage M_page M_trial M_book M_kept M_isKept M_seenPoint M_seenSum M_seenWas)) (C := RX7) C0 hP hD hS [0, 1, 2, 3, 4, 5, 6, 7, 8, 9, 10, 11, 12] rfl (by decide) (c_X7_noPoint l D cI cC cZ a_M a_M_text a_M_plan a_M_read a_M_readPage a_M_page a_M_trial a_M_book a_M_kept a_M_isKept a_M_seenPoint a_M_seenSum a_M_seenWas H.size M_thrown M_textSize M_place M_doings M_seen M_seed M_bestSet M_text M_plan M_read M_readPage M_page M_trial M_book M_kept M_isKept M_seenPoint M_seenSum M_seenWas (M_seenPoint (Int32.toNatClampNeg p2)) r3 hc2) kw_357 kw_354 kw_355 kw_356 kw_5 (by decide +kernel) (by decide) rfl rfl rfl hl.1 rfl (Nat.le_of_ble_eq_true rfl) ⟨Nat.zero_le _, Nat.zero_le _⟩ dX7_isSo_7) (fun H locs hP hS => ?_)
  refine lv_if_ne (tgt := 62) hx hb dX7_isSo_10 (by decide) (fun c4 => ?_) (fun c4 => ?_)
  · have h := oc_f c4 h
    refine lv_iconst (v := (1 : Int32)) hx hb dX7_isSo_62 (by decide) ?_
    refine lv_goto (tgt := 67) hx hb dX7_isSo_63 (by decide) ?_
    cases h
    exact kret_i C0 hP hD hS (by decide) dX7_isSo_67
  · have h := oc_t c4 h
    refine lv_aload_n hx hb dX7_isSo_13 rfl (lv_at hl 0 rfl) ?_
    refine lv_aload_n hx hb dX7_isSo_14 rfl (lv_at hl 0 rfl) ?_
    refine va_get (D := D) (ci := 7) (v := .ref a_M_seenPoint) (C := RX7) (T := TX7) (N := 19) hx hb hts inlX7 hown hK hP 0 rfl rfl 14 (by decide) (hts _ kw_93) (fun _ h9 => h9) rfl dX7_isSo_15 ?_
    refine lv_iload_n hx hb dX7_isSo_18 rfl (lv_at hl 2 rfl) ?_
    obtain ⟨hb5, h⟩ := oc_else h
    refine va_iald hx hb hK hP 10 0 rfl rfl hb5 dX7_isSo_19 ?_
    refine lv_iload_n hx hb dX7_isSo_20 rfl (lv_at hl 1 rfl) ?_
    refine lv_aload_n hx hb dX7_isSo_21 rfl (lv_at hl 0 rfl) ?_
    refine va_get (D := D) (ci := 7) (v := .ref a_M_page) (C := RX7) (T := TX7) (N := 19) hx hb hts inlX7 hown hK hP 0 rfl rfl 7 (by decide) (hts _ kw_88) (fun _ h9 => h9) rfl dX7_isSo_22 ?_
    refine lv_iconst (v := (2 : Int32)) hx hb dX7_isSo_25 (by decide) ?_
    refine va_iald hx hb hK hP 5 0 rfl rfl (show ¬ ((2 : Int32) < 0 ∨ 9 ≤ Int32.toNatClampNeg (2 : Int32)) by decide) dX7_isSo_26 ?_
    obtain ⟨r7, hc6, h⟩ := oc_bind h
    refine kro_i (wc := (WD16 cI cC cZ a_M a_M_text a_M_plan a_M_read a_M_readPage a_M_page a_M_trial a_M_book a_M_kept a_M_isKept a_M_seenPoint a_M_seenSum a_M_seenWas M_thrown M_textSize M_place M_doings M_seen M_seed M_bestSet M_text M_plan M_read M_readPage M_page M_trial M_book M_kept M_isKept M_seenPoint M_seenSum M_seenWas)) C0 hP hD hS [0, 1, 2, 3, 4, 5, 6, 7, 8, 9, 10, 11, 12] rfl (kV (n := 3) (As := [.int (M_seenPoint (Int32.toNatClampNeg p2)), .int p1, .int (M_page (Int32.toNatClampNeg (2 : Int32)))]) (rest := []) (wc := (WD16 cI cC cZ a_M a_M_text a_M_plan a_M_read a_M_readPage a_M_page a_M_trial a_M_book a_M_kept a_M_isKept a_M_seenPoint a_M_seenSum a_M_seenWas M_thrown M_textSize M_place M_doings M_seen M_seed M_bestSet M_text M_plan M_read M_readPage M_page M_trial M_book M_kept M_isKept M_seenPoint M_seenSum M_seenWas)) (C := RX7) C0 hP hD hS [0, 1, 2, 3, 4, 5, 6, 7, 8, 9, 10, 11, 12] rfl (by decide) (c_X7_sumBy l D cI cC cZ a_M a_M_text a_M_plan a_M_read a_M_readPage a_M_page a_M_trial a_M_book a_M_kept a_M_isKept a_M_seenPoint a_M_seenSum a_M_seenWas H.size M_thrown M_textSize M_place M_doings M_seen M_seed M_bestSet M_text M_plan M_read M_readPage M_page M_trial M_book M_kept M_isKept M_seenPoint M_seenSum M_seenWas (M_seenPoint (Int32.toNatClampNeg p2)) p1 (M_page (Int32.toNatClampNeg (2 : Int32))) r7 hc6) kw_368 kw_365 kw_366 kw_367 kw_5 (by decide +kernel) (by decide) rfl rfl rfl hl.1 rfl (Nat.le_of_ble_eq_true rfl) ⟨Nat.zero_le _, Nat.zero_le _⟩ dX7_isSo_27) (fun H locs hP hS => ?_)
    refine lv_aload_n hx hb dX7_isSo_30 rfl (lv_at hl 0 rfl) ?_
    refine va_get (D := D) (ci := 7) (v := .ref a_M_seenSum) (C := RX7) (T := TX7) (N := 19) hx hb hts inlX7 hown hK hP 0 rfl rfl 15 (by decide) (hts _ kw_94) (fun _ h9 => h9) rfl dX7_isSo_31 ?_
    refine lv_iload_n hx hb dX7_isSo_34 rfl (lv_at hl 2 rfl) ?_
    obtain ⟨hb8, h⟩ := oc_else h
    refine va_iald hx hb hK hP 11 0 rfl rfl hb8 dX7_isSo_35 ?_
    refine lv_icmp_lt (tgt := 43) hx hb dX7_isSo_36 (by decide) (fun c9 => ?_) (fun c9 => ?_)
    · have h := oc_t c9 h
      refine lv_iconst (v := (0 : Int32)) hx hb dX7_isSo_43 (by decide) ?_
      exact wk_X7_isSo_44 C0  h hP hD hS (lv_sub hl [0, 2] rfl)
    · have h := oc_f c9 h
      refine lv_iconst (v := (1 : Int32)) hx hb dX7_isSo_39 (by decide) ?_
      refine lv_goto (tgt := 44) hx hb dX7_isSo_40 (by decide) ?_
      exact wk_X7_isSo_44 C0  h hP hD hS (lv_sub hl [0, 2] rfl)
abbrev rm_X7_which : Room := { frames := 8, cells := 0, slots := 0, locals := 203 }
noncomputable def bk_X7_which_79 (k9 : Int32 → Int32 → Option (Int32 × Int32)) (M_thrown : Int32) (M_seen : Int32) (M_plan : Nat → Int32) (M_page : Nat → Int32) (M_seenPoint : Nat → Int32) (M_seenSum : Nat → Int32) (M_seenWas : Nat → Int32) (p1 : Int32) (p2 : Int32) (p3 : Int32) : Option (Int32 × Int32) := if p3 = 0 then (nm_ (p1 ||| (0 : Int32)) (fun t2 => nm_ (p2 + (1 : Int32)) (fun t3 => k9 t2 t3))) else (nm_ (p1 ||| ((1 : Int32) <<< (p2 &&& 31))) (fun t4 => nm_ (p2 + (1 : Int32)) (fun t5 => k9 t4 t5)))
set_option maxHeartbeats 4000000 in
set_option maxRecDepth 100000 in
theorem wk_X7_which_79 {p : Program} {l : Launch} {e : Env} {s : State} {m : MethodId} {args : Array Value} {below : List Frame} {meth : Method} {c : Code} {D : va_G} {cI cC cZ : ClassId} {A : Nat → Prop} {a_M a_M_text a_M_plan a_M_read a_M_readPage a_M_page a_M_trial a_M_book a_M_kept a_M_isKept a_M_seenPoint a_M_seenSum a_M_seenWas : Nat} {M_thrown : Int32} {M_textSize : Int32} {M_place : Int32} {M_doings : Int32} {M_seen : Int32} {M_seed : Int64} {M_bestSet : Int32} {M_text : Nat → Int32} {M_plan : Nat → Int32} {M_read : Nat → Int32} {M_readPage : Nat → Int32} {M_page : Nat → Int32} {M_trial : Nat → Int32} {M_book : Nat → Int32} {M_kept : Nat → Int32} {M_isKept : Nat → Int32} {M_seenPoint : Nat → Int32} {M_seenSum : Nat → Int32} {M_seenWas : Nat → Int32} {p1 : Int32} {p2 : Int32} {p3 : Int32} {k9 : Int32 → Int32 → Option (Int32 × Int32)} {rr : Int32} {u_M_thrown : Int32} (C0 : kC p s m args meth c D (kTY cI cC cZ) cX7_which (some .int) 5 RX7 A) (hk9 : ∀ (p1_k : Int32) (p2_k : Int32), k9 p1_k p2_k = some (rr, u_M_thrown) → ∀ (H : Heap) (locs : List Loc), va_P D vwCl (WD16 cI cC cZ a_M a_M_text a_M_plan a_M_read a_M_readPage a_M_page a_M_trial a_M_book a_M_kept a_M_isKept a_M_seenPoint a_M_seenSum a_M_seenWas M_thrown M_textSize M_place M_doings M_seen M_seed M_bestSet M_text M_plan M_read M_readPage M_page M_trial M_book M_kept M_isKept M_seenPoint M_seenSum M_seenWas) H → va_D A (WD16 cI cC cZ a_M a_M_text a_M_plan a_M_read a_M_readPage a_M_page a_M_trial a_M_book a_M_kept a_M_isKept a_M_seenPoint a_M_seenSum a_M_seenWas M_thrown M_textSize M_place M_doings M_seen M_seed M_bestSet M_text M_plan M_read M_readPage M_page M_trial M_book M_kept M_isKept M_seenPoint M_seenSum M_seenWas) → va_S A s.heap H locs → ∀ ls : Array Slot, lv_has ls 5 [(0, .ref a_M), (1, .int p1_k), (2, .int p2_k)] → W p l e rm_X7_which s m args below meth c H locs 0 0 (MQ below (kQI D (kTY cI cC cZ) A rr (WD16 cI cC cZ a_M a_M_text a_M_plan a_M_read a_M_readPage a_M_page a_M_trial a_M_book a_M_kept a_M_isKept a_M_seenPoint a_M_seenSum a_M_seenWas u_M_thrown M_textSize M_place M_doings M_seen M_seed M_bestSet M_text M_plan M_read M_readPage M_page M_trial M_book M_kept M_isKept M_seenPoint M_seenSum M_seenWas)) args s 0 0 A) (F0 m 9 ls [])) (h : bk_X7_which_79 k9 M_thrown M_seen M_plan M_page M_seenPoint M_seenSum M_seenWas p1 p2 p3 = some (rr, u_M_thrown)) {H : Heap} {locs : List Loc} (hP : va_P D vwCl (WD16 cI cC cZ a_M a_M_text a_M_plan a_M_read a_M_readPage a_M_page a_M_trial a_M_book a_M_kept a_M_isKept a_M_seenPoint a_M_seenSum a_M_seenWas M_thrown M_textSize M_place M_doings M_seen M_seed M_bestSet M_text M_plan M_read M_readPage M_page M_trial M_book M_kept M_isKept M_seenPoint M_seenSum M_seenWas) H) (hD : va_D A (WD16 cI cC cZ a_M a_M_text a_M_plan a_M_read a_M_readPage a_M_page a_M_trial a_M_book a_M_kept a_M_isKept a_M_seenPoint a_M_seenSum a_M_seenWas M_thrown M_textSize M_place M_doings M_seen M_seed M_bestSet M_text M_plan M_read M_readPage M_page M_trial M_book M_kept M_isKept M_seenPoint M_seenSum M_seenWas)) (hS : va_S A s.heap H locs) {ls : Array Slot} (hl : lv_has ls 5 [(0, .ref a_M), (1, .int p1), (2, .int p2), (3, .int p3)]) : W p l e rm_X7_which s m args below meth c H locs 0 0 (MQ below (kQI D (kTY cI cC cZ) A rr (WD16 cI cC cZ a_M a_M_text a_M_plan a_M_read a_M_readPage a_M_page a_M_trial a_M_book a_M_kept a_M_isKept a_M_seenPoint a_M_seenSum a_M_seenWas u_M_thrown M_textSize M_place M_doings M_seen M_seed M_bestSet M_text M_plan M_read M_readPage M_page M_trial M_book M_kept M_isKept M_seenPoint M_seenSum M_seenWas)) args s 0 0 A) (F0 m 79 ls []) := by
  obtain ⟨hx, hb, hr, hml, hown, hts, hK, hN, hA, hlocks, hF⟩ := id C0
  unfold bk_X7_which_79 at h
  refine lv_iload_n hx hb dX7_which_79 rfl (lv_at hl 1 rfl) ?_
  refine lv_iload_n hx hb dX7_which_80 rfl (lv_at hl 3 rfl) ?_
  refine lv_if_eq (tgt := 90) hx hb dX7_which_81 (by decide) (fun c1 => ?_) (fun c1 => ?_)
  · have h := oc_t c1 h
    refine lv_iconst (v := (0 : Int32)) hx hb dX7_which_90 (by decide) ?_
    refine lv_ior hx hb dX7_which_91 ?_
    refine lv_topi (fun t2 e_t2 => ?_)
    have h := oc_nm e_t2 h
    refine lv_istore_n (lv' := [(1, .int t2), (0, .ref a_M), (2, .int p2), (3, .int p3)]) hx hb dX7_which_92 rfl hl (by decide) rfl (fun ls hl => ?_)
    obtain ⟨t3, e_t3⟩ : ∃ y : Int32, y = p2 + (1 : Int32) := ⟨_, rfl⟩
    have h := oc_nm e_t3 h
    refine lv_iinc (v := t3) (lv' := [(2, .int t3), (1, .int t2), (0, .ref a_M), (3, .int p3)]) hx hb dX7_which_93 hl (k := 2) rfl (by rw [e_t3]; rfl) (by decide) rfl (fun ls hl => ?_)
    refine lv_goto (tgt := 9) hx hb dX7_which_96 (by decide) ?_
    exact hk9 _ _ h _ _ hP hD hS _ (lv_sub hl [2, 1, 0] rfl)
  · have h := oc_f c1 h
    refine lv_iconst (v := (1 : Int32)) hx hb dX7_which_84 (by decide) ?_
    refine lv_iload_n hx hb dX7_which_85 rfl (lv_at hl 2 rfl) ?_
    refine lv_ishl hx hb dX7_which_86 ?_
    refine lv_goto (tgt := 91) hx hb dX7_which_87 (by decide) ?_
    refine lv_ior hx hb dX7_which_91 ?_
    refine lv_topi (fun t4 e_t4 => ?_)
    have h := oc_nm e_t4 h
    refine lv_istore_n (lv' := [(1, .int t4), (0, .ref a_M), (2, .int p2), (3, .int p3)]) hx hb dX7_which_92 rfl hl (by decide) rfl (fun ls hl => ?_)
    obtain ⟨t5, e_t5⟩ : ∃ y : Int32, y = p2 + (1 : Int32) := ⟨_, rfl⟩
    have h := oc_nm e_t5 h
    refine lv_iinc (v := t5) (lv' := [(2, .int t5), (1, .int t4), (0, .ref a_M), (3, .int p3)]) hx hb dX7_which_93 hl (k := 2) rfl (by rw [e_t5]; rfl) (by decide) rfl (fun ls hl => ?_)
    refine lv_goto (tgt := 9) hx hb dX7_which_96 (by decide) ?_
    exact hk9 _ _ h _ _ hP hD hS _ (lv_sub hl [2, 1, 0] rfl)
noncomputable def bk_X7_which_32 (k9 : Int32 → Int32 → Option (Int32 × Int32)) (k32 : Int32 → Int32 → Option (Int32 × Int32)) (M_thrown : Int32) (M_seen : Int32) (M_plan : Nat → Int32) (M_page : Nat → Int32) (M_seenPoint : Nat → Int32) (M_seenSum : Nat → Int32) (M_seenWas : Nat → Int32) (p1 : Int32) (p2 : Int32) (p3 : Int32) (p4 : Int32) : Option (Int32 × Int32) := if M_seen ≤ p4 then (bk_X7_which_79 k9 M_thrown M_seen M_plan M_page M_seenPoint M_seenSum M_seenWas p1 p2 p3) else (if p3 = 0 then (nm_ (p4 + (1 : Int32)) (fun t3 => k32 (0 : Int32) t3)) else ((f_X7_live M_page).bind (fun r5 => (f_X7_isSo M_plan M_page M_seenPoint M_seenSum M_seenWas (r5 &&& (((1 : Int32) <<< (p2 &&& 31)) ^^^ (-1 : Int32))) p4).bind (fun r7 => if r7 = 0 then (nm_ (p4 + (1 : Int32)) (fun t9 => k32 (0 : Int32) t9)) else (nm_ (p4 + (1 : Int32)) (fun t10 => k32 (1 : Int32) t10))))))
set_option maxHeartbeats 4000000 in
set_option maxRecDepth 100000 in
theorem wk_X7_which_32 {p : Program} {l : Launch} {e : Env} {s : State} {m : MethodId} {args : Array Value} {below : List Frame} {meth : Method} {c : Code} {D : va_G} {cI cC cZ : ClassId} {A : Nat → Prop} {a_M a_M_text a_M_plan a_M_read a_M_readPage a_M_page a_M_trial a_M_book a_M_kept a_M_isKept a_M_seenPoint a_M_seenSum a_M_seenWas : Nat} {M_thrown : Int32} {M_textSize : Int32} {M_place : Int32} {M_doings : Int32} {M_seen : Int32} {M_seed : Int64} {M_bestSet : Int32} {M_text : Nat → Int32} {M_plan : Nat → Int32} {M_read : Nat → Int32} {M_readPage : Nat → Int32} {M_page : Nat → Int32} {M_trial : Nat → Int32} {M_book : Nat → Int32} {M_kept : Nat → Int32} {M_isKept : Nat → Int32} {M_seenPoint : Nat → Int32} {M_seenSum : Nat → Int32} {M_seenWas : Nat → Int32} {p1 : Int32} {p2 : Int32} {p3 : Int32} {p4 : Int32} {k9 : Int32 → Int32 → Option (Int32 × Int32)} {k32 : Int32 → Int32 → Option (Int32 × Int32)} {rr : Int32} {u_M_thrown : Int32} (C0 : kC p s m args meth c D (kTY cI cC cZ) cX7_which (some .int) 5 RX7 A) (hk9 : ∀ (p1_k : Int32) (p2_k : Int32), k9 p1_k p2_k = some (rr, u_M_thrown) → ∀ (H : Heap) (locs : List Loc), va_P D vwCl (WD16 cI cC cZ a_M a_M_text a_M_plan a_M_read a_M_readPage a_M_page a_M_trial a_M_book a_M_kept a_M_isKept a_M_seenPoint a_M_seenSum a_M_seenWas M_thrown M_textSize M_place M_doings M_seen M_seed M_bestSet M_text M_plan M_read M_readPage M_page M_trial M_book M_kept M_isKept M_seenPoint M_seenSum M_seenWas) H → va_D A (WD16 cI cC cZ a_M a_M_text a_M_plan a_M_read a_M_readPage a_M_page a_M_trial a_M_book a_M_kept a_M_isKept a_M_seenPoint a_M_seenSum a_M_seenWas M_thrown M_textSize M_place M_doings M_seen M_seed M_bestSet M_text M_plan M_read M_readPage M_page M_trial M_book M_kept M_isKept M_seenPoint M_seenSum M_seenWas) → va_S A s.heap H locs → ∀ ls : Array Slot, lv_has ls 5 [(0, .ref a_M), (1, .int p1_k), (2, .int p2_k)] → W p l e rm_X7_which s m args below meth c H locs 0 0 (MQ below (kQI D (kTY cI cC cZ) A rr (WD16 cI cC cZ a_M a_M_text a_M_plan a_M_read a_M_readPage a_M_page a_M_trial a_M_book a_M_kept a_M_isKept a_M_seenPoint a_M_seenSum a_M_seenWas u_M_thrown M_textSize M_place M_doings M_seen M_seed M_bestSet M_text M_plan M_read M_readPage M_page M_trial M_book M_kept M_isKept M_seenPoint M_seenSum M_seenWas)) args s 0 0 A) (F0 m 9 ls [])) (hk32 : ∀ (p3_k : Int32) (p4_k : Int32), k32 p3_k p4_k = some (rr, u_M_thrown) → ∀ (H : Heap) (locs : List Loc), va_P D vwCl (WD16 cI cC cZ a_M a_M_text a_M_plan a_M_read a_M_readPage a_M_page a_M_trial a_M_book a_M_kept a_M_isKept a_M_seenPoint a_M_seenSum a_M_seenWas M_thrown M_textSize M_place M_doings M_seen M_seed M_bestSet M_text M_plan M_read M_readPage M_page M_trial M_book M_kept M_isKept M_seenPoint M_seenSum M_seenWas) H → va_D A (WD16 cI cC cZ a_M a_M_text a_M_plan a_M_read a_M_readPage a_M_page a_M_trial a_M_book a_M_kept a_M_isKept a_M_seenPoint a_M_seenSum a_M_seenWas M_thrown M_textSize M_place M_doings M_seen M_seed M_bestSet M_text M_plan M_read M_readPage M_page M_trial M_book M_kept M_isKept M_seenPoint M_seenSum M_seenWas) → va_S A s.heap H locs → ∀ ls : Array Slot, lv_has ls 5 [(0, .ref a_M), (1, .int p1), (2, .int p2), (3, .int p3_k), (4, .int p4_k)] → W p l e rm_X7_which s m args below meth c H locs 0 0 (MQ below (kQI D (kTY cI cC cZ) A rr (WD16 cI cC cZ a_M a_M_text a_M_plan a_M_read a_M_readPage a_M_page a_M_trial a_M_book a_M_kept a_M_isKept a_M_seenPoint a_M_seenSum a_M_seenWas u_M_thrown M_textSize M_place M_doings M_seen M_seed M_bestSet M_text M_plan M_read M_readPage M_page M_trial M_book M_kept M_isKept M_seenPoint M_seenSum M_seenWas)) args s 0 0 A) (F0 m 32 ls [])) (h : bk_X7_which_32 k9 k32 M_thrown M_seen M_plan M_page M_seenPoint M_seenSum M_seenWas p1 p2 p3 p4 = some (rr, u_M_thrown)) {H : Heap} {locs : List Loc} (hP : va_P D vwCl (WD16 cI cC cZ a_M a_M_text a_M_plan a_M_read a_M_readPage a_M_page a_M_trial a_M_book a_M_kept a_M_isKept a_M_seenPoint a_M_seenSum a_M_seenWas M_thrown M_textSize M_place M_doings M_seen M_seed M_bestSet M_text M_plan M_read M_readPage M_page M_trial M_book M_kept M_isKept M_seenPoint M_seenSum M_seenWas) H) (hD : va_D A (WD16 cI cC cZ a_M a_M_text a_M_plan a_M_read a_M_readPage a_M_page a_M_trial a_M_book a_M_kept a_M_isKept a_M_seenPoint a_M_seenSum a_M_seenWas M_thrown M_textSize M_place M_doings M_seen M_seed M_bestSet M_text M_plan M_read M_readPage M_page M_trial M_book M_kept M_isKept M_seenPoint M_seenSum M_seenWas)) (hS : va_S A s.heap H locs) {ls : Array Slot} (hl : lv_has ls 5 [(0, .ref a_M), (1, .int p1), (2, .int p2), (3, .int p3), (4, .int p4)]) : W p l e rm_X7_which s m args below meth c H locs 0 0 (MQ below (kQI D (kTY cI cC cZ) A rr (WD16 cI cC cZ a_M a_M_text a_M_plan a_M_read a_M_readPage a_M_page a_M_trial a_M_book a_M_kept a_M_isKept a_M_seenPoint a_M_seenSum a_M_seenWas u_M_thrown M_textSize M_place M_doings M_seen M_seed M_bestSet M_text M_plan M_read M_readPage M_page M_trial M_book M_kept M_isKept M_seenPoint M_seenSum M_seenWas)) args s 0 0 A) (F0 m 32 ls []) := by
  obtain ⟨hx, hb, hr, hml, hown, hts, hK, hN, hA, hlocks, hF⟩ := id C0
  unfold bk_X7_which_32 at h
  refine lv_iload hx hb dX7_which_32 (lv_at hl 4 rfl) ?_
  refine lv_aload_n hx hb dX7_which_34 rfl (lv_at hl 0 rfl) ?_
  refine va_get (D := D) (ci := 7) (v := .int M_seen) (C := RX7) (T := TX7) (N := 19) hx hb hts inlX7 hown hK hP 0 rfl rfl 13 (by decide) (hts _ kw_682) (fun _ h9 => h9) rfl dX7_which_35 ?_
  refine lv_icmp_ge (tgt := 79) hx hb dX7_which_38 (by decide) (fun c1 => ?_) (fun c1 => ?_)
  · have h := oc_t c1 h
    exact wk_X7_which_79 C0 hk9 h hP hD hS (lv_sub hl [0, 1, 2, 3] rfl)
  · have h := oc_f c1 h
    refine lv_iload_n hx hb dX7_which_41 rfl (lv_at hl 3 rfl) ?_
    refine lv_if_eq (tgt := 71) hx hb dX7_which_42 (by decide) (fun c2 => ?_) (fun c2 => ?_)
    · have h := oc_t c2 h
      refine lv_iconst (v := (0 : Int32)) hx hb dX7_which_71 (by decide) ?_
      refine lv_istore_n (lv' := [(3, .int (0 : Int32)), (0, .ref a_M), (1, .int p1), (2, .int p2), (4, .int p4)]) hx hb dX7_which_72 rfl hl (by decide) rfl (fun ls hl => ?_)
      obtain ⟨t3, e_t3⟩ : ∃ y : Int32, y = p4 + (1 : Int32) := ⟨_, rfl⟩
      have h := oc_nm e_t3 h
      refine lv_iinc (v := t3) (lv' := [(4, .int t3), (3, .int (0 : Int32)), (0, .ref a_M), (1, .int p1), (2, .int p2)]) hx hb dX7_which_73 hl (k := 4) rfl (by rw [e_t3]; rfl) (by decide) rfl (fun ls hl => ?_)
      refine lv_goto (tgt := 32) hx hb dX7_which_76 (by decide) ?_
      exact hk32 _ _ h _ _ hP hD hS _ (lv_sub hl [2, 3, 4, 1, 0] rfl)
    · have h := oc_f c2 h
      refine lv_aload_n hx hb dX7_which_45 rfl (lv_at hl 0 rfl) ?_
      refine lv_aload_n hx hb dX7_which_46 rfl (lv_at hl 0 rfl) ?_
      refine va_get (D := D) (ci := 7) (v := .ref a_M_page) (C := RX7) (T := TX7) (N := 19) hx hb hts inlX7 hown hK hP 0 rfl rfl 7 (by decide) (hts _ kw_88) (fun _ h9 => h9) rfl dX7_which_47 ?_
      obtain ⟨r5, hc4, h⟩ := oc_bind h
      refine kro_i (wc := (WD17 cI cC cZ a_M_page M_page)) C0 hP hD hS [5] rfl (kS (n := 1) (As := [.ref a_M_page]) (rest := [.ref a_M]) (wc := (WD17 cI cC cZ a_M_page M_page)) C0 hP hD hS [5] rfl (by decide) (c_X7_live l D cI cC cZ a_M_page H.size M_page  r5 hc4) kw_364 kw_362 kw_363 kw_5 (by decide +kernel) (by decide) rfl hl.1 rfl (Nat.le_of_ble_eq_true rfl) ⟨Nat.zero_le _, Nat.zero_le _⟩ dX7_which_50) (fun H locs hP hS => ?_)
      refine lv_iconst (v := (1 : Int32)) hx hb dX7_which_53 (by decide) ?_
      refine lv_iload_n hx hb dX7_which_54 rfl (lv_at hl 2 rfl) ?_
      refine lv_ishl hx hb dX7_which_55 ?_
      refine lv_iconst (v := (-1 : Int32)) hx hb dX7_which_56 (by decide) ?_
      refine lv_ixor hx hb dX7_which_57 ?_
      refine lv_iand hx hb dX7_which_58 ?_
      refine lv_iload hx hb dX7_which_59 (lv_at hl 4 rfl) ?_
      obtain ⟨r7, hc6, h⟩ := oc_bind h
      refine kro_i (wc := (WD16 cI cC cZ a_M a_M_text a_M_plan a_M_read a_M_readPage a_M_page a_M_trial a_M_book a_M_kept a_M_isKept a_M_seenPoint a_M_seenSum a_M_seenWas M_thrown M_textSize M_place M_doings M_seen M_seed M_bestSet M_text M_plan M_read M_readPage M_page M_trial M_book M_kept M_isKept M_seenPoint M_seenSum M_seenWas)) C0 hP hD hS [0, 1, 2, 3, 4, 5, 6, 7, 8, 9, 10, 11, 12] rfl (kV (n := 2) (As := [.int (r5 &&& (((1 : Int32) <<< (p2 &&& 31)) ^^^ (-1 : Int32))), .int p4]) (rest := []) (wc := (WD16 cI cC cZ a_M a_M_text a_M_plan a_M_read a_M_readPage a_M_page a_M_trial a_M_book a_M_kept a_M_isKept a_M_seenPoint a_M_seenSum a_M_seenWas M_thrown M_textSize M_place M_doings M_seen M_seed M_bestSet M_text M_plan M_read M_readPage M_page M_trial M_book M_kept M_isKept M_seenPoint M_seenSum M_seenWas)) (C := RX7) C0 hP hD hS [0, 1, 2, 3, 4, 5, 6, 7, 8, 9, 10, 11, 12] rfl (by decide) (c_X7_isSo l D cI cC cZ a_M a_M_text a_M_plan a_M_read a_M_readPage a_M_page a_M_trial a_M_book a_M_kept a_M_isKept a_M_seenPoint a_M_seenSum a_M_seenWas H.size M_thrown M_textSize M_place M_doings M_seen M_seed M_bestSet M_text M_plan M_read M_readPage M_page M_trial M_book M_kept M_isKept M_seenPoint M_seenSum M_seenWas (r5 &&& (((1 : Int32) <<< (p2 &&& 31)) ^^^ (-1 : Int32))) p4 r7 hc6) kw_705 kw_702 kw_703 kw_704 kw_5 (by decide +kernel) (by decide) rfl rfl rfl hl.1 rfl (Nat.le_of_ble_eq_true rfl) ⟨Nat.zero_le _, Nat.zero_le _⟩ dX7_which_61) (fun H locs hP hS => ?_)
      refine lv_if_eq (tgt := 71) hx hb dX7_which_64 (by decide) (fun c8 => ?_) (fun c8 => ?_)
      · have h := oc_t c8 h
        refine lv_iconst (v := (0 : Int32)) hx hb dX7_which_71 (by decide) ?_
        refine lv_istore_n (lv' := [(3, .int (0 : Int32)), (0, .ref a_M), (1, .int p1), (2, .int p2), (4, .int p4)]) hx hb dX7_which_72 rfl hl (by decide) rfl (fun ls hl => ?_)
        obtain ⟨t9, e_t9⟩ : ∃ y : Int32, y = p4 + (1 : Int32) := ⟨_, rfl⟩
        have h := oc_nm e_t9 h
        refine lv_iinc (v := t9) (lv' := [(4, .int t9), (3, .int (0 : Int32)), (0, .ref a_M), (1, .int p1), (2, .int p2)]) hx hb dX7_which_73 hl (k := 4) rfl (by rw [e_t9]; rfl) (by decide) rfl (fun ls hl => ?_)
        refine lv_goto (tgt := 32) hx hb dX7_which_76 (by decide) ?_
        exact hk32 _ _ h _ _ hP hD hS _ (lv_sub hl [2, 3, 4, 1, 0] rfl)
      · have h := oc_f c8 h
        refine lv_iconst (v := (1 : Int32)) hx hb dX7_which_67 (by decide) ?_
        refine lv_goto (tgt := 72) hx hb dX7_which_68 (by decide) ?_
        refine lv_istore_n (lv' := [(3, .int (1 : Int32)), (0, .ref a_M), (1, .int p1), (2, .int p2), (4, .int p4)]) hx hb dX7_which_72 rfl hl (by decide) rfl (fun ls hl => ?_)
        obtain ⟨t10, e_t10⟩ : ∃ y : Int32, y = p4 + (1 : Int32) := ⟨_, rfl⟩
        have h := oc_nm e_t10 h
        refine lv_iinc (v := t10) (lv' := [(4, .int t10), (3, .int (1 : Int32)), (0, .ref a_M), (1, .int p1), (2, .int p2)]) hx hb dX7_which_73 hl (k := 4) rfl (by rw [e_t10]; rfl) (by decide) rfl (fun ls hl => ?_)
        refine lv_goto (tgt := 32) hx hb dX7_which_76 (by decide) ?_
        exact hk32 _ _ h _ _ hP hD hS _ (lv_sub hl [2, 3, 4, 1, 0] rfl)
noncomputable def lp_X7_which_32 (k9 : Int32 → Int32 → Option (Int32 × Int32)) (M_thrown : Int32) (M_seen : Int32) (M_plan : Nat → Int32) (M_page : Nat → Int32) (M_seenPoint : Nat → Int32) (M_seenSum : Nat → Int32) (M_seenWas : Nat → Int32) (p1 : Int32) (p2 : Int32) (n : Nat) : Int32 → Int32 → Option (Int32 × Int32) := Nat.rec (motive := fun _ => Int32 → Int32 → Option (Int32 × Int32)) (fun _ _ => none) (fun _ ih => bk_X7_which_32 k9 ih M_thrown M_seen M_plan M_page M_seenPoint M_seenSum M_seenWas p1 p2) n
set_option maxHeartbeats 4000000 in
set_option maxRecDepth 100000 in
theorem wl_X7_which_32 {p : Program} {l : Launch} {e : Env} {s : State} {m : MethodId} {args : Array Value} {below : List Frame} {meth : Method} {c : Code} {D : va_G} {cI cC cZ : ClassId} {A : Nat → Prop} {a_M a_M_text a_M_plan a_M_read a_M_readPage a_M_page a_M_trial a_M_book a_M_kept a_M_isKept a_M_seenPoint a_M_seenSum a_M_seenWas : Nat} {M_thrown : Int32} {M_textSize : Int32} {M_place : Int32} {M_doings : Int32} {M_seen : Int32} {M_seed : Int64} {M_bestSet : Int32} {M_text : Nat → Int32} {M_plan : Nat → Int32} {M_read : Nat → Int32} {M_readPage : Nat → Int32} {M_page : Nat → Int32} {M_trial : Nat → Int32} {M_book : Nat → Int32} {M_kept : Nat → Int32} {M_isKept : Nat → Int32} {M_seenPoint : Nat → Int32} {M_seenSum : Nat → Int32} {M_seenWas : Nat → Int32} {p1 : Int32} {p2 : Int32} {k9 : Int32 → Int32 → Option (Int32 × Int32)} {rr : Int32} {u_M_thrown : Int32} (C0 : kC p s m args meth c D (kTY cI cC cZ) cX7_which (some .int) 5 RX7 A) (hk9 : ∀ (p1_k : Int32) (p2_k : Int32), k9 p1_k p2_k = some (rr, u_M_thrown) → ∀ (H : Heap) (locs : List Loc), va_P D vwCl (WD16 cI cC cZ a_M a_M_text a_M_plan a_M_read a_M_readPage a_M_page a_M_trial a_M_book a_M_kept a_M_isKept a_M_seenPoint a_M_seenSum a_M_seenWas M_thrown M_textSize M_place M_doings M_seen M_seed M_bestSet M_text M_plan M_read M_readPage M_page M_trial M_book M_kept M_isKept M_seenPoint M_seenSum M_seenWas) H → va_D A (WD16 cI cC cZ a_M a_M_text a_M_plan a_M_read a_M_readPage a_M_page a_M_trial a_M_book a_M_kept a_M_isKept a_M_seenPoint a_M_seenSum a_M_seenWas M_thrown M_textSize M_place M_doings M_seen M_seed M_bestSet M_text M_plan M_read M_readPage M_page M_trial M_book M_kept M_isKept M_seenPoint M_seenSum M_seenWas) → va_S A s.heap H locs → ∀ ls : Array Slot, lv_has ls 5 [(0, .ref a_M), (1, .int p1_k), (2, .int p2_k)] → W p l e rm_X7_which s m args below meth c H locs 0 0 (MQ below (kQI D (kTY cI cC cZ) A rr (WD16 cI cC cZ a_M a_M_text a_M_plan a_M_read a_M_readPage a_M_page a_M_trial a_M_book a_M_kept a_M_isKept a_M_seenPoint a_M_seenSum a_M_seenWas u_M_thrown M_textSize M_place M_doings M_seen M_seed M_bestSet M_text M_plan M_read M_readPage M_page M_trial M_book M_kept M_isKept M_seenPoint M_seenSum M_seenWas)) args s 0 0 A) (F0 m 9 ls [])) : ∀ (n : Nat) (p3 : Int32) (p4 : Int32), lp_X7_which_32 k9 M_thrown M_seen M_plan M_page M_seenPoint M_seenSum M_seenWas p1 p2 n p3 p4 = some (rr, u_M_thrown) → ∀ (H : Heap) (locs : List Loc), va_P D vwCl (WD16 cI cC cZ a_M a_M_text a_M_plan a_M_read a_M_readPage a_M_page a_M_trial a_M_book a_M_kept a_M_isKept a_M_seenPoint a_M_seenSum a_M_seenWas M_thrown M_textSize M_place M_doings M_seen M_seed M_bestSet M_text M_plan M_read M_readPage M_page M_trial M_book M_kept M_isKept M_seenPoint M_seenSum M_seenWas) H → va_D A (WD16 cI cC cZ a_M a_M_text a_M_plan a_M_read a_M_readPage a_M_page a_M_trial a_M_book a_M_kept a_M_isKept a_M_seenPoint a_M_seenSum a_M_seenWas M_thrown M_textSize M_place M_doings M_seen M_seed M_bestSet M_text M_plan M_read M_readPage M_page M_trial M_book M_kept M_isKept M_seenPoint M_seenSum M_seenWas) → va_S A s.heap H locs → ∀ ls : Array Slot, lv_has ls 5 [(0, .ref a_M), (1, .int p1), (2, .int p2), (3, .int p3), (4, .int p4)] → W p l e rm_X7_which s m args below meth c H locs 0 0 (MQ below (kQI D (kTY cI cC cZ) A rr (WD16 cI cC cZ a_M a_M_text a_M_plan a_M_read a_M_readPage a_M_page a_M_trial a_M_book a_M_kept a_M_isKept a_M_seenPoint a_M_seenSum a_M_seenWas u_M_thrown M_textSize M_place M_doings M_seen M_seed M_bestSet M_text M_plan M_read M_readPage M_page M_trial M_book M_kept M_isKept M_seenPoint M_seenSum M_seenWas)) args s 0 0 A) (F0 m 32 ls []) := by
  intro n
  induction n with
  | zero => intro p3 p4 h; cases (show (none : Option (Int32 × Int32)) = some _ from h)
  | succ n ih =>
    intro p3 p4 h H locs hP hD hS ls hl
    exact wk_X7_which_32 C0 hk9 (fun p3 p4 h H locs hP hD hS ls hl => ih p3 p4 h H locs hP hD hS ls hl) (show bk_X7_which_32 k9 (lp_X7_which_32 k9 M_thrown M_seen M_plan M_page M_seenPoint M_seenSum M_seenWas p1 p2 n) M_thrown M_seen M_plan M_page M_seenPoint M_seenSum M_seenWas p1 p2 p3 p4 = some _ from h) hP hD hS hl
noncomputable def bk_X7_which_9 (k9 : Int32 → Int32 → Option (Int32 × Int32)) (M_thrown : Int32) (M_seen : Int32) (M_plan : Nat → Int32) (M_page : Nat → Int32) (M_seenPoint : Nat → Int32) (M_seenSum : Nat → Int32) (M_seenWas : Nat → Int32) (p1 : Int32) (p2 : Int32) : Option (Int32 × Int32) := (f_X7_spots M_plan).bind (fun r2 => if r2 ≤ p2 then (some (p1, M_thrown)) else ((f_X7_live M_page).bind (fun r5 => (f_X7_has r5 p2).bind (fun r7 => lp_X7_which_32 k9 M_thrown M_seen M_plan M_page M_seenPoint M_seenSum M_seenWas p1 p2 1000 r7 (0 : Int32)))))
set_option maxHeartbeats 4000000 in
set_option maxRecDepth 100000 in
theorem wk_X7_which_9 {p : Program} {l : Launch} {e : Env} {s : State} {m : MethodId} {args : Array Value} {below : List Frame} {meth : Method} {c : Code} {D : va_G} {cI cC cZ : ClassId} {A : Nat → Prop} {a_M a_M_text a_M_plan a_M_read a_M_readPage a_M_page a_M_trial a_M_book a_M_kept a_M_isKept a_M_seenPoint a_M_seenSum a_M_seenWas : Nat} {M_thrown : Int32} {M_textSize : Int32} {M_place : Int32} {M_doings : Int32} {M_seen : Int32} {M_seed : Int64} {M_bestSet : Int32} {M_text : Nat → Int32} {M_plan : Nat → Int32} {M_read : Nat → Int32} {M_readPage : Nat → Int32} {M_page : Nat → Int32} {M_trial : Nat → Int32} {M_book : Nat → Int32} {M_kept : Nat → Int32} {M_isKept : Nat → Int32} {M_seenPoint : Nat → Int32} {M_seenSum : Nat → Int32} {M_seenWas : Nat → Int32} {p1 : Int32} {p2 : Int32} {k9 : Int32 → Int32 → Option (Int32 × Int32)} {rr : Int32} {u_M_thrown : Int32} (C0 : kC p s m args meth c D (kTY cI cC cZ) cX7_which (some .int) 5 RX7 A) (hk9 : ∀ (p1_k : Int32) (p2_k : Int32), k9 p1_k p2_k = some (rr, u_M_thrown) → ∀ (H : Heap) (locs : List Loc), va_P D vwCl (WD16 cI cC cZ a_M a_M_text a_M_plan a_M_read a_M_readPage a_M_page a_M_trial a_M_book a_M_kept a_M_isKept a_M_seenPoint a_M_seenSum a_M_seenWas M_thrown M_textSize M_place M_doings M_seen M_seed M_bestSet M_text M_plan M_read M_readPage M_page M_trial M_book M_kept M_isKept M_seenPoint M_seenSum M_seenWas) H → va_D A (WD16 cI cC cZ a_M a_M_text a_M_plan a_M_read a_M_readPage a_M_page a_M_trial a_M_book a_M_kept a_M_isKept a_M_seenPoint a_M_seenSum a_M_seenWas M_thrown M_textSize M_place M_doings M_seen M_seed M_bestSet M_text M_plan M_read M_readPage M_page M_trial M_book M_kept M_isKept M_seenPoint M_seenSum M_seenWas) → va_S A s.heap H locs → ∀ ls : Array Slot, lv_has ls 5 [(0, .ref a_M), (1, .int p1_k), (2, .int p2_k)] → W p l e rm_X7_which s m args below meth c H locs 0 0 (MQ below (kQI D (kTY cI cC cZ) A rr (WD16 cI cC cZ a_M a_M_text a_M_plan a_M_read a_M_readPage a_M_page a_M_trial a_M_book a_M_kept a_M_isKept a_M_seenPoint a_M_seenSum a_M_seenWas u_M_thrown M_textSize M_place M_doings M_seen M_seed M_bestSet M_text M_plan M_read M_readPage M_page M_trial M_book M_kept M_isKept M_seenPoint M_seenSum M_seenWas)) args s 0 0 A) (F0 m 9 ls [])) (h : bk_X7_which_9 k9 M_thrown M_seen M_plan M_page M_seenPoint M_seenSum M_seenWas p1 p2 = some (rr, u_M_thrown)) {H : Heap} {locs : List Loc} (hP : va_P D vwCl (WD16 cI cC cZ a_M a_M_text a_M_plan a_M_read a_M_readPage a_M_page a_M_trial a_M_book a_M_kept a_M_isKept a_M_seenPoint a_M_seenSum a_M_seenWas M_thrown M_textSize M_place M_doings M_seen M_seed M_bestSet M_text M_plan M_read M_readPage M_page M_trial M_book M_kept M_isKept M_seenPoint M_seenSum M_seenWas) H) (hD : va_D A (WD16 cI cC cZ a_M a_M_text a_M_plan a_M_read a_M_readPage a_M_page a_M_trial a_M_book a_M_kept a_M_isKept a_M_seenPoint a_M_seenSum a_M_seenWas M_thrown M_textSize M_place M_doings M_seen M_seed M_bestSet M_text M_plan M_read M_readPage M_page M_trial M_book M_kept M_isKept M_seenPoint M_seenSum M_seenWas)) (hS : va_S A s.heap H locs) {ls : Array Slot} (hl : lv_has ls 5 [(0, .ref a_M), (1, .int p1), (2, .int p2)]) : W p l e rm_X7_which s m args below meth c H locs 0 0 (MQ below (kQI D (kTY cI cC cZ) A rr (WD16 cI cC cZ a_M a_M_text a_M_plan a_M_read a_M_readPage a_M_page a_M_trial a_M_book a_M_kept a_M_isKept a_M_seenPoint a_M_seenSum a_M_seenWas u_M_thrown M_textSize M_place M_doings M_seen M_seed M_bestSet M_text M_plan M_read M_readPage M_page M_trial M_book M_kept M_isKept M_seenPoint M_seenSum M_seenWas)) args s 0 0 A) (F0 m 9 ls []) := by
  obtain ⟨hx, hb, hr, hml, hown, hts, hK, hN, hA, hlocks, hF⟩ := id C0
  unfold bk_X7_which_9 at h
  refine lv_iload_n hx hb dX7_which_9 rfl (lv_at hl 2 rfl) ?_
  refine lv_aload_n hx hb dX7_which_10 rfl (lv_at hl 0 rfl) ?_
  obtain ⟨r2, hc1, h⟩ := oc_bind h
  refine kro_i (wc := (WD16 cI cC cZ a_M a_M_text a_M_plan a_M_read a_M_readPage a_M_page a_M_trial a_M_book a_M_kept a_M_isKept a_M_seenPoint a_M_seenSum a_M_seenWas M_thrown M_textSize M_place M_doings M_seen M_seed M_bestSet M_text M_plan M_read M_readPage M_page M_trial M_book M_kept M_isKept M_seenPoint M_seenSum M_seenWas)) C0 hP hD hS [0, 1, 2, 3, 4, 5, 6, 7, 8, 9, 10, 11, 12] rfl (kV (n := 0) (As := []) (rest := [.int p2]) (wc := (WD16 cI cC cZ a_M a_M_text a_M_plan a_M_read a_M_readPage a_M_page a_M_trial a_M_book a_M_kept a_M_isKept a_M_seenPoint a_M_seenSum a_M_seenWas M_thrown M_textSize M_place M_doings M_seen M_seed M_bestSet M_text M_plan M_read M_readPage M_page M_trial M_book M_kept M_isKept M_seenPoint M_seenSum M_seenWas)) (C := RX7) C0 hP hD hS [0, 1, 2, 3, 4, 5, 6, 7, 8, 9, 10, 11, 12] rfl (by decide) (c_X7_spots l D cI cC cZ a_M a_M_text a_M_plan a_M_read a_M_readPage a_M_page a_M_trial a_M_book a_M_kept a_M_isKept a_M_seenPoint a_M_seenSum a_M_seenWas H.size M_thrown M_textSize M_place M_doings M_seen M_seed M_bestSet M_text M_plan M_read M_readPage M_page M_trial M_book M_kept M_isKept M_seenPoint M_seenSum M_seenWas  r2 hc1) kw_280 kw_277 kw_278 kw_279 kw_5 (by decide +kernel) (by decide) rfl rfl rfl hl.1 rfl (Nat.le_of_ble_eq_true rfl) ⟨Nat.zero_le _, Nat.zero_le _⟩ dX7_which_11) (fun H locs hP hS => ?_)
  refine lv_icmp_ge (tgt := 99) hx hb dX7_which_14 (by decide) (fun c3 => ?_) (fun c3 => ?_)
  · have h := oc_t c3 h
    refine lv_iload_n hx hb dX7_which_99 rfl (lv_at hl 1 rfl) ?_
    cases h
    exact kret_i C0 hP hD hS rfl dX7_which_100
  · have h := oc_f c3 h
    refine lv_aload_n hx hb dX7_which_17 rfl (lv_at hl 0 rfl) ?_
    refine va_get (D := D) (ci := 7) (v := .ref a_M_page) (C := RX7) (T := TX7) (N := 19) hx hb hts inlX7 hown hK hP 0 rfl rfl 7 (by decide) (hts _ kw_88) (fun _ h9 => h9) rfl dX7_which_18 ?_
    obtain ⟨r5, hc4, h⟩ := oc_bind h
    refine kro_i (wc := (WD17 cI cC cZ a_M_page M_page)) C0 hP hD hS [5] rfl (kS (n := 1) (As := [.ref a_M_page]) (rest := []) (wc := (WD17 cI cC cZ a_M_page M_page)) C0 hP hD hS [5] rfl (by decide) (c_X7_live l D cI cC cZ a_M_page H.size M_page  r5 hc4) kw_364 kw_362 kw_363 kw_5 (by decide +kernel) (by decide) rfl hl.1 rfl (Nat.le_of_ble_eq_true rfl) ⟨Nat.zero_le _, Nat.zero_le _⟩ dX7_which_21) (fun H locs hP hS => ?_)
    refine lv_iload_n hx hb dX7_which_24 rfl (lv_at hl 2 rfl) ?_
    obtain ⟨r7, hc6, h⟩ := oc_bind h
    refine kro_i (wc := (WD0 cI cC cZ)) C0 hP hD hS [] rfl (kS (n := 2) (As := [.int r5, .int p2]) (rest := []) (wc := (WD0 cI cC cZ)) C0 hP hD hS [] rfl (by decide) (c_X7_has l D cI cC cZ  H.size  r5 p2 r7 hc6) kw_371 kw_369 kw_370 kw_5 (by decide +kernel) (by decide) rfl hl.1 rfl (Nat.le_of_ble_eq_true rfl) ⟨Nat.zero_le _, Nat.zero_le _⟩ dX7_which_25) (fun H locs hP hS => ?_)
    refine lv_istore_n (lv' := [(3, .int r7), (0, .ref a_M), (1, .int p1), (2, .int p2)]) hx hb dX7_which_28 rfl hl (by decide) rfl (fun ls hl => ?_)
    refine lv_iconst (v := (0 : Int32)) hx hb dX7_which_29 (by decide) ?_
    refine lv_istore (lv' := [(4, .int (0 : Int32)), (3, .int r7), (0, .ref a_M), (1, .int p1), (2, .int p2)]) hx hb dX7_which_30 hl (by decide) rfl (fun ls hl => ?_)
    exact wl_X7_which_32 C0 hk9 _ _ _ h _ _ hP hD hS _ (lv_sub hl [2, 3, 4, 1, 0] rfl)
noncomputable def lp_X7_which_9  (M_thrown : Int32) (M_seen : Int32) (M_plan : Nat → Int32) (M_page : Nat → Int32) (M_seenPoint : Nat → Int32) (M_seenSum : Nat → Int32) (M_seenWas : Nat → Int32) (n : Nat) : Int32 → Int32 → Option (Int32 × Int32) := Nat.rec (motive := fun _ => Int32 → Int32 → Option (Int32 × Int32)) (fun _ _ => none) (fun _ ih => bk_X7_which_9  ih M_thrown M_seen M_plan M_page M_seenPoint M_seenSum M_seenWas) n
set_option maxHeartbeats 4000000 in
set_option maxRecDepth 100000 in
theorem wl_X7_which_9 {p : Program} {l : Launch} {e : Env} {s : State} {m : MethodId} {args : Array Value} {below : List Frame} {meth : Method} {c : Code} {D : va_G} {cI cC cZ : ClassId} {A : Nat → Prop} {a_M a_M_text a_M_plan a_M_read a_M_readPage a_M_page a_M_trial a_M_book a_M_kept a_M_isKept a_M_seenPoint a_M_seenSum a_M_seenWas : Nat} {M_thrown : Int32} {M_textSize : Int32} {M_place : Int32} {M_doings : Int32} {M_seen : Int32} {M_seed : Int64} {M_bestSet : Int32} {M_text : Nat → Int32} {M_plan : Nat → Int32} {M_read : Nat → Int32} {M_readPage : Nat → Int32} {M_page : Nat → Int32} {M_trial : Nat → Int32} {M_book : Nat → Int32} {M_kept : Nat → Int32} {M_isKept : Nat → Int32} {M_seenPoint : Nat → Int32} {M_seenSum : Nat → Int32} {M_seenWas : Nat → Int32}  {rr : Int32} {u_M_thrown : Int32} (C0 : kC p s m args meth c D (kTY cI cC cZ) cX7_which (some .int) 5 RX7 A)  : ∀ (n : Nat) (p1 : Int32) (p2 : Int32), lp_X7_which_9  M_thrown M_seen M_plan M_page M_seenPoint M_seenSum M_seenWas n p1 p2 = some (rr, u_M_thrown) → ∀ (H : Heap) (locs : List Loc), va_P D vwCl (WD16 cI cC cZ a_M a_M_text a_M_plan a_M_read a_M_readPage a_M_page a_M_trial a_M_book a_M_kept a_M_isKept a_M_seenPoint a_M_seenSum a_M_seenWas M_thrown M_textSize M_place M_doings M_seen M_seed M_bestSet M_text M_plan M_read M_readPage M_page M_trial M_book M_kept M_isKept M_seenPoint M_seenSum M_seenWas) H → va_D A (WD16 cI cC cZ a_M a_M_text a_M_plan a_M_read a_M_readPage a_M_page a_M_trial a_M_book a_M_kept a_M_isKept a_M_seenPoint a_M_seenSum a_M_seenWas M_thrown M_textSize M_place M_doings M_seen M_seed M_bestSet M_text M_plan M_read M_readPage M_page M_trial M_book M_kept M_isKept M_seenPoint M_seenSum M_seenWas) → va_S A s.heap H locs → ∀ ls : Array Slot, lv_has ls 5 [(0, .ref a_M), (1, .int p1), (2, .int p2)] → W p l e rm_X7_which s m args below meth c H locs 0 0 (MQ below (kQI D (kTY cI cC cZ) A rr (WD16 cI cC cZ a_M a_M_text a_M_plan a_M_read a_M_readPage a_M_page a_M_trial a_M_book a_M_kept a_M_isKept a_M_seenPoint a_M_seenSum a_M_seenWas u_M_thrown M_textSize M_place M_doings M_seen M_seed M_bestSet M_text M_plan M_read M_readPage M_page M_trial M_book M_kept M_isKept M_seenPoint M_seenSum M_seenWas)) args s 0 0 A) (F0 m 9 ls []) := by
  intro n
  induction n with
  | zero => intro p1 p2 h; cases (show (none : Option (Int32 × Int32)) = some _ from h)
  | succ n ih =>
    intro p1 p2 h H locs hP hD hS ls hl
    exact wk_X7_which_9 C0  (fun p1 p2 h H locs hP hD hS ls hl => ih p1 p2 h H locs hP hD hS ls hl) (show bk_X7_which_9  (lp_X7_which_9  M_thrown M_seen M_plan M_page M_seenPoint M_seenSum M_seenWas n) M_thrown M_seen M_plan M_page M_seenPoint M_seenSum M_seenWas p1 p2 = some _ from h) hP hD hS hl
noncomputable def f_X7_which (M_thrown : Int32) (M_seen : Int32) (M_plan : Nat → Int32) (M_page : Nat → Int32) (M_seenPoint : Nat → Int32) (M_seenSum : Nat → Int32) (M_seenWas : Nat → Int32)  : Option (Int32 × Int32) := lp_X7_which_9  (0 : Int32) M_seen M_plan M_page M_seenPoint M_seenSum M_seenWas 1000 (0 : Int32) (0 : Int32)
set_option maxHeartbeats 4000000 in
set_option maxRecDepth 100000 in
theorem c_X7_which (l : Launch) (D : va_G) (cI cC cZ : ClassId) (a_M a_M_text a_M_plan a_M_read a_M_readPage a_M_page a_M_trial a_M_book a_M_kept a_M_isKept a_M_seenPoint a_M_seenSum a_M_seenWas : Nat) (sz : Nat) (M_thrown : Int32) (M_textSize : Int32) (M_place : Int32) (M_doings : Int32) (M_seen : Int32) (M_seed : Int64) (M_bestSet : Int32) (M_text : Nat → Int32) (M_plan : Nat → Int32) (M_read : Nat → Int32) (M_readPage : Nat → Int32) (M_page : Nat → Int32) (M_trial : Nat → Int32) (M_book : Nat → Int32) (M_kept : Nat → Int32) (M_isKept : Nat → Int32) (M_seenPoint : Nat → Int32) (M_seenSum : Nat → Int32) (M_seenWas : Nat → Int32) (rr : Int32) (u_M_thrown : Int32) (hf : f_X7_which M_thrown M_seen M_plan M_page M_seenPoint M_seenSum M_seenWas = some (rr, u_M_thrown)) : kMet l yX7_which cX7_which 5 (some .int) rm_X7_which D (kTY cI cC cZ) [.ref a_M] (WD16 cI cC cZ a_M a_M_text a_M_plan a_M_read a_M_readPage a_M_page a_M_trial a_M_book a_M_kept a_M_isKept a_M_seenPoint a_M_seenSum a_M_seenWas M_thrown M_textSize M_place M_doings M_seen M_seed M_bestSet M_text M_plan M_read M_readPage M_page M_trial M_book M_kept M_isKept M_seenPoint M_seenSum M_seenWas) sz (kQI D (kTY cI cC cZ) (va_A (WD16 cI cC cZ a_M a_M_text a_M_plan a_M_read a_M_readPage a_M_page a_M_trial a_M_book a_M_kept a_M_isKept a_M_seenPoint a_M_seenSum a_M_seenWas M_thrown M_textSize M_place M_doings M_seen M_seed M_bestSet M_text M_plan M_read M_readPage M_page M_trial M_book M_kept M_isKept M_seenPoint M_seenSum M_seenWas) sz) rr (WD16 cI cC cZ a_M a_M_text a_M_plan a_M_read a_M_readPage a_M_page a_M_trial a_M_book a_M_kept a_M_isKept a_M_seenPoint a_M_seenSum a_M_seenWas u_M_thrown M_textSize M_place M_doings M_seen M_seed M_bestSet M_text M_plan M_read M_readPage M_page M_trial M_book M_kept M_isKept M_seenPoint M_seenSum M_seenWas)) := by
  refine kEnter (lv := [(0, .ref a_M)]) (own := RX7) (by decide) rfl (Nat.le_of_ble_eq_true rfl) rfl ?_
  intro p e s m below meth c hsz C0 hP hD hS ls hl
  generalize (va_A (WD16 cI cC cZ a_M a_M_text a_M_plan a_M_read a_M_readPage a_M_page a_M_trial a_M_book a_M_kept a_M_isKept a_M_seenPoint a_M_seenSum a_M_seenWas M_thrown M_textSize M_place M_doings M_seen M_seed M_bestSet M_text M_plan M_read M_readPage M_page M_trial M_book M_kept M_isKept M_seenPoint M_seenSum M_seenWas) sz) = A at C0 hD hS ⊢
  clear hsz hS
  obtain ⟨H, hHs⟩ : ∃ H : Heap, H = s.heap := ⟨_, rfl⟩
  have hS : va_S A s.heap H [] := by rw [hHs]; exact va_S.rf
  rw [← hHs] at hP ⊢
  obtain ⟨hx, hb, hr, hml, hown, hts, hK, hN, hA, hlocks, hF⟩ := id C0
  have h := hf
  unfold f_X7_which at h
  refine lv_aload_n hx hb dX7_which_0 rfl (lv_at hl 0 rfl) ?_
  refine lv_iconst (v := (0 : Int32)) hx hb dX7_which_1 (by decide) ?_
  refine va_put (D := D) (ci := 7) (v := .int (0 : Int32)) (ty := .int) (C := RX7) (T := TX7) (N := 19) hx hb hts inlX7 tyX7 tyX7_ok nmX7 hown hK hP hD hS 0 rfl rfl 0 (by decide) (hts _ kw_109) (fun _ h9 => h9) rfl (by decide +kernel) rfl rfl (Nat.le_of_ble_eq_true rfl) dX7_which_2 (fun H locs hP hD hS => ?_)
  have hP : va_P D vwCl (WD16 cI cC cZ a_M a_M_text a_M_plan a_M_read a_M_readPage a_M_page a_M_trial a_M_book a_M_kept a_M_isKept a_M_seenPoint a_M_seenSum a_M_seenWas (0 : Int32) M_textSize M_place M_doings M_seen M_seed M_bestSet M_text M_plan M_read M_readPage M_page M_trial M_book M_kept M_isKept M_seenPoint M_seenSum M_seenWas) H := hP
  have hD : va_D A (WD16 cI cC cZ a_M a_M_text a_M_plan a_M_read a_M_readPage a_M_page a_M_trial a_M_book a_M_kept a_M_isKept a_M_seenPoint a_M_seenSum a_M_seenWas (0 : Int32) M_textSize M_place M_doings M_seen M_seed M_bestSet M_text M_plan M_read M_readPage M_page M_trial M_book M_kept M_isKept M_seenPoint M_seenSum M_seenWas) := hD
  refine lv_iconst (v := (0 : Int32)) hx hb dX7_which_5 (by decide) ?_
  refine lv_istore_n (lv' := [(1, .int (0 : Int32)), (0, .ref a_M)]) hx hb dX7_which_6 rfl hl (by decide) rfl (fun ls hl => ?_)
  refine lv_iconst (v := (0 : Int32)) hx hb dX7_which_7 (by decide) ?_
  refine lv_istore_n (lv' := [(2, .int (0 : Int32)), (1, .int (0 : Int32)), (0, .ref a_M)]) hx hb dX7_which_8 rfl hl (by decide) rfl (fun ls hl => ?_)
  exact wl_X7_which_9 C0  _ _ _ h _ _ hP hD hS _ (lv_sub hl [2, 1, 0] rfl)
