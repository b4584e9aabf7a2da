abbrev rm_X7_undo : Room := { frames := 0, cells := 0, slots := 0, locals := 0 }
noncomputable def bk_X7_undo_27 (k27 : (Nat → Int32) → Int32 → Option (Int32 × Int32 × Int32 × (Nat → Int32))) (M_thrown : Int32) (M_doings : Int32) (M_book : Nat → Int32) (M_page : Nat → Int32) (p1 : Int32) : Option (Int32 × Int32 × Int32 × (Nat → Int32)) := if (9 : Int32) ≤ p1 then (some (M_doings, M_thrown, M_doings, M_page)) else (if ((((9 : Int32) * M_doings) + p1) < 0 ∨ 126 ≤ Int32.toNatClampNeg (((9 : Int32) * M_doings) + p1)) then none else (if (p1 < 0 ∨ 9 ≤ Int32.toNatClampNeg p1) then none else (nm_ (p1 + (1 : Int32)) (fun t4 => k27 (upd M_page (Int32.toNatClampNeg p1) (M_book (Int32.toNatClampNeg (((9 : Int32) * M_doings) + p1)))) t4))))
set_option maxHeartbeats 4000000 in
set_option maxRecDepth 100000 in
theorem wk_X7_undo_27 {p : Program} {l : Launch} {e : Env} {s : State} {m : MethodId} {args : Array Value} {below : List Frame} {meth : Method} {c : Code} {D : va_G} {cI cC cZ : ClassId} {A : Nat → Prop} {a_M a_M_text a_M_plan a_M_read a_M_readPage a_M_page a_M_trial a_M_book a_M_kept a_M_isKept a_M_seenPoint a_M_seenSum a_M_seenWas : Nat} {M_thrown : Int32} {M_textSize : Int32} {M_place : Int32} {M_doings : Int32} {M_seen : Int32} {M_seed : Int64} {M_bestSet : Int32} {M_text : Nat → Int32} {M_plan : Nat → Int32} {M_read : Nat → Int32} {M_readPage : Nat → Int32} {M_page : Nat → Int32} {M_trial : Nat → Int32} {M_book : Nat → Int32} {M_kept : Nat → Int32} {M_isKept : Nat → Int32} {M_seenPoint : Nat → Int32} {M_seenSum : Nat → Int32} {M_seenWas : Nat → Int32} {p1 : Int32} {k27 : (Nat → Int32) → Int32 → Option (Int32 × Int32 × Int32 × (Nat → Int32))} {rr : Int32} {u_M_thrown : Int32} {u_M_doings : Int32} {u_M_page : Nat → Int32} (C0 : kC p s m args meth c D (kTY cI cC cZ) cX7_undo (some .int) 2 RX7 A) (hk27 : ∀ (M_page_k : Nat → Int32) (p1_k : Int32), k27 M_page_k p1_k = some (rr, u_M_thrown, u_M_doings, u_M_page) → ∀ (H : Heap) (locs : List Loc), va_P D vwCl (WD16 cI cC cZ a_M a_M_text a_M_plan a_M_read a_M_readPage a_M_page a_M_trial a_M_book a_M_kept a_M_isKept a_M_seenPoint a_M_seenSum a_M_seenWas M_thrown M_textSize M_place M_doings M_seen M_seed M_bestSet M_text M_plan M_read M_readPage M_page_k M_trial M_book M_kept M_isKept M_seenPoint M_seenSum M_seenWas) H → va_D A (WD16 cI cC cZ a_M a_M_text a_M_plan a_M_read a_M_readPage a_M_page a_M_trial a_M_book a_M_kept a_M_isKept a_M_seenPoint a_M_seenSum a_M_seenWas M_thrown M_textSize M_place M_doings M_seen M_seed M_bestSet M_text M_plan M_read M_readPage M_page_k M_trial M_book M_kept M_isKept M_seenPoint M_seenSum M_seenWas) → va_S A s.heap H locs → ∀ ls : Array Slot, lv_has ls 2 [(0, .ref a_M), (1, .int p1_k)] → W p l e rm_X7_undo s m args below meth c H locs 0 0 (MQ below (kQI D (kTY cI cC cZ) A rr (WD16 cI cC cZ a_M a_M_text a_M_plan a_M_read a_M_readPage a_M_page a_M_trial a_M_book a_M_kept a_M_isKept a_M_seenPoint a_M_seenSum a_M_seenWas u_M_thrown M_textSize M_place u_M_doings M_seen M_seed M_bestSet M_text M_plan M_read M_readPage u_M_page M_trial M_book M_kept M_isKept M_seenPoint M_seenSum M_seenWas)) args s 0 0 A) (F0 m 27 ls [])) (h : bk_X7_undo_27 k27 M_thrown M_doings M_book M_page p1 = some (rr, u_M_thrown, u_M_doings, u_M_page)) {H : Heap} {locs : List Loc} (hP : va_P D vwCl (WD16 cI cC cZ a_M a_M_text a_M_plan a_M_read a_M_readPage a_M_page a_M_trial a_M_book a_M_kept a_M_isKept a_M_seenPoint a_M_seenSum a_M_seenWas M_thrown M_textSize M_place M_doings M_seen M_seed M_bestSet M_text M_plan M_read M_readPage M_page M_trial M_book M_kept M_isKept M_seenPoint M_seenSum M_seenWas) H) (hD : va_D A (WD16 cI cC cZ a_M a_M_text a_M_plan a_M_read a_M_readPage a_M_page a_M_trial a_M_book a_M_kept a_M_isKept a_M_seenPoint a_M_seenSum a_M_seenWas M_thrown M_textSize M_place M_doings M_seen M_seed M_bestSet M_text M_plan M_read M_readPage M_page M_trial M_book M_kept M_isKept M_seenPoint M_seenSum M_seenWas)) (hS : va_S A s.heap H locs) {ls : Array Slot} (hl : lv_has ls 2 [(0, .ref a_M), (1, .int p1)]) : W p l e rm_X7_undo s m args below meth c H locs 0 0 (MQ below (kQI D (kTY cI cC cZ) A rr (WD16 cI cC cZ a_M a_M_text a_M_plan a_M_read a_M_readPage a_M_page a_M_trial a_M_book a_M_kept a_M_isKept a_M_seenPoint a_M_seenSum a_M_seenWas u_M_thrown M_textSize M_place u_M_doings M_seen M_seed M_bestSet M_text M_plan M_read M_readPage u_M_page M_trial M_book M_kept M_isKept M_seenPoint M_seenSum M_seenWas)) args s 0 0 A) (F0 m 27 ls []) := by
  obtain ⟨hx, hb, hr, hml, hown, hts, hK, hN, hA, hlocks, hF⟩ := id C0
  unfold bk_X7_undo_27 at h
  refine lv_iload_n hx hb dX7_undo_27 rfl (lv_at hl 1 rfl) ?_
  refine lv_bipush (v := (9 : Int32)) hx hb dX7_undo_28 (by decide) ?_
  refine lv_icmp_ge (tgt := 59) hx hb dX7_undo_30 (by decide) (fun c1 => ?_) (fun c1 => ?_)
  · have h := oc_t c1 h
    refine lv_aload_n hx hb dX7_undo_59 rfl (lv_at hl 0 rfl) ?_
    refine va_get (D := D) (ci := 7) (v := .int M_doings) (C := RX7) (T := TX7) (N := 19) hx hb hts inlX7 hown hK hP 0 rfl rfl 10 (by decide) (hts _ kw_269) (fun _ h9 => h9) rfl dX7_undo_60 ?_
    cases h
    exact kret_i C0 hP hD hS rfl dX7_undo_63
  · have h := oc_f c1 h
    refine lv_aload_n hx hb dX7_undo_33 rfl (lv_at hl 0 rfl) ?_
    refine va_get (D := D) (ci := 7) (v := .ref a_M_page) (C := RX7) (T := TX7) (N := 19) hx hb hts inlX7 hown hK hP 0 rfl rfl 7 (by decide) (hts _ kw_88) (fun _ h9 => h9) rfl dX7_undo_34 ?_
    refine lv_iload_n hx hb dX7_undo_37 rfl (lv_at hl 1 rfl) ?_
    refine lv_aload_n hx hb dX7_undo_38 rfl (lv_at hl 0 rfl) ?_
    refine va_get (D := D) (ci := 7) (v := .ref a_M_book) (C := RX7) (T := TX7) (N := 19) hx hb hts inlX7 hown hK hP 0 rfl rfl 9 (by decide) (hts _ kw_90) (fun _ h9 => h9) rfl dX7_undo_39 ?_
    refine lv_bipush (v := (9 : Int32)) hx hb dX7_undo_42 (by decide) ?_
    refine lv_aload_n hx hb dX7_undo_44 rfl (lv_at hl 0 rfl) ?_
    refine va_get (D := D) (ci := 7) (v := .int M_doings) (C := RX7) (T := TX7) (N := 19) hx hb hts inlX7 hown hK hP 0 rfl rfl 10 (by decide) (hts _ kw_269) (fun _ h9 => h9) rfl dX7_undo_45 ?_
    refine lv_imul hx hb dX7_undo_48 ?_
    refine lv_iload_n hx hb dX7_undo_49 rfl (lv_at hl 1 rfl) ?_
    refine lv_iadd hx hb dX7_undo_50 ?_
    obtain ⟨hb2, h⟩ := oc_else h
    refine va_iald hx hb hK hP 7 0 rfl rfl hb2 dX7_undo_51 ?_
    obtain ⟨hb3, h⟩ := oc_else h
    refine va_iast hx hb hK hP hD hS 5 0 rfl rfl hb3 dX7_undo_52 (fun H locs hP hD hS => ?_)
    have hP : va_P D vwCl (WD16 cI cC cZ a_M a_M_text a_M_plan a_M_read a_M_readPage a_M_page a_M_trial a_M_book a_M_kept a_M_isKept a_M_seenPoint a_M_seenSum a_M_seenWas M_thrown M_textSize M_place M_doings M_seen M_seed M_bestSet M_text M_plan M_read M_readPage (upd M_page (Int32.toNatClampNeg p1) (M_book (Int32.toNatClampNeg (((9 : Int32) * M_doings) + p1)))) M_trial M_book M_kept M_isKept M_seenPoint M_seenSum M_seenWas) H := hP
    have hD : va_D A (WD16 cI cC cZ a_M a_M_text a_M_plan a_M_read a_M_readPage a_M_page a_M_trial a_M_book a_M_kept a_M_isKept a_M_seenPoint a_M_seenSum a_M_seenWas M_thrown M_textSize M_place M_doings M_seen M_seed M_bestSet M_text M_plan M_read M_readPage (upd M_page (Int32.toNatClampNeg p1) (M_book (Int32.toNatClampNeg (((9 : Int32) * M_doings) + p1)))) M_trial M_book M_kept M_isKept M_seenPoint M_seenSum M_seenWas) := hD
    obtain ⟨t4, e_t4⟩ : ∃ y : Int32, y = p1 + (1 : Int32) := ⟨_, rfl⟩
    have h := oc_nm e_t4 h
    refine lv_iinc (v := t4) (lv' := [(1, .int t4), (0, .ref a_M)]) hx hb dX7_undo_53 hl (k := 1) rfl (by rw [e_t4]; rfl) (by decide) rfl (fun ls hl => ?_)
    refine lv_goto (tgt := 27) hx hb dX7_undo_56 (by decide) ?_
    exact hk27 _ _ h _ _ hP hD hS _ (lv_sub hl [1, 0] rfl)
noncomputable def lp_X7_undo_27  (M_thrown : Int32) (M_doings : Int32) (M_book : Nat → Int32) (n : Nat) : (Nat → Int32) → Int32 → Option (Int32 × Int32 × Int32 × (Nat → Int32)) := Nat.rec (motive := fun _ => (Nat → Int32) → Int32 → Option (Int32 × Int32 × Int32 × (Nat → Int32))) (fun _ _ => none) (fun _ ih => bk_X7_undo_27  ih M_thrown M_doings M_book) n
set_option maxHeartbeats 4000000 in
set_option maxRecDepth 100000 in
theorem wl_X7_undo_27 {p : Program} {l : Launch} {e : Env} {s : State} {m : MethodId} {args : Array Value} {below : List Frame} {meth : Method} {c : Code} {D : va_G} {cI cC cZ : ClassId} {A : Nat → Prop} {a_M a_M_text a_M_plan a_M_read a_M_readPage a_M_page a_M_trial a_M_book a_M_kept a_M_isKept a_M_seenPoint a_M_seenSum a_M_seenWas : Nat} {M_thrown : Int32} {M_textSize : Int32} {M_place : Int32} {M_doings : Int32} {M_seen : Int32} {M_seed : Int64} {M_bestSet : Int32} {M_text : Nat → Int32} {M_plan : Nat → Int32} {M_read : Nat → Int32} {M_readPage : Nat → Int32} {M_trial : Nat → Int32} {M_book : Nat → Int32} {M_kept : Nat → Int32} {M_isKept : Nat → Int32} {M_seenPoint : Nat → Int32} {M_seenSum : Nat → Int32} {M_seenWas : Nat → Int32}  {rr : Int32} {u_M_thrown : Int32} {u_M_doings : Int32} {u_M_page : Nat → Int32} (C0 : kC p s m args meth c D (kTY cI cC cZ) cX7_undo (some .int) 2 RX7 A)  : ∀ (n : Nat) (M_page : Nat → Int32) (p1 : Int32), lp_X7_undo_27  M_thrown M_doings M_book n M_page p1 = some (rr, u_M_thrown, u_M_doings, u_M_page) → ∀ (H : Heap) (locs : List Loc), va_P D vwCl (WD16 cI cC cZ a_M a_M_text a_M_plan a_M_read a_M_readPage a_M_page a_M_trial a_M_book a_M_kept a_M_isKept a_M_seenPoint a_M_seenSum a_M_seenWas M_thrown M_textSize M_place M_doings M_seen M_seed M_bestSet M_text M_plan M_read M_readPage M_page M_trial M_book M_kept M_isKept M_seenPoint M_seenSum M_seenWas) H → va_D A (WD16 cI cC cZ a_M a_M_text a_M_plan a_M_read a_M_readPage a_M_page a_M_trial a_M_book a_M_kept a_M_isKept a_M_seenPoint a_M_seenSum a_M_seenWas M_thrown M_textSize M_place M_doings M_seen M_seed M_bestSet M_text M_plan M_read M_readPage M_page M_trial M_book M_kept M_isKept M_seenPoint M_seenSum M_seenWas) → va_S A s.heap H locs → ∀ ls : Array Slot, lv_has ls 2 [(0, .ref a_M), (1, .int p1)] → W p l e rm_X7_undo s m args below meth c H locs 0 0 (MQ below (kQI D (kTY cI cC cZ) A rr (WD16 cI cC cZ a_M a_M_text a_M_plan a_M_read a_M_readPage a_M_page a_M_trial a_M_book a_M_kept a_M_isKept a_M_seenPoint a_M_seenSum a_M_seenWas u_M_thrown M_textSize M_place u_M_doings M_seen M_seed M_bestSet M_text M_plan M_read M_readPage u_M_page M_trial M_book M_kept M_isKept M_seenPoint M_seenSum M_seenWas)) args s 0 0 A) (F0 m 27 ls []) := by
  intro n
  induction n with
  | zero => intro M_page p1 h; cases (show (none : Option (Int32 × Int32 × Int32 × (Nat → Int32))) = some _ from h)
  | succ n ih =>
    intro M_page p1 h H locs hP hD hS ls hl
    exact wk_X7_undo_27 C0  (fun M_page p1 h H locs hP hD hS ls hl => ih M_page p1 h H locs hP hD hS ls hl) (show bk_X7_undo_27  (lp_X7_undo_27  M_thrown M_doings M_book n) M_thrown M_doings M_book M_page p1 = some _ from h) hP hD hS hl
noncomputable def f_X7_undo (M_thrown : Int32) (M_doings : Int32) (M_page : Nat → Int32) (M_book : Nat → Int32)  : Option (Int32 × Int32 × Int32 × (Nat → Int32)) := if M_doings = 0 then (some ((-3 : Int32), (0 : Int32), M_doings, M_page)) else (nm_ (M_doings - (1 : Int32)) (fun t2 => lp_X7_undo_27  (0 : Int32) t2 M_book 1000 M_page (0 : Int32)))
set_option maxHeartbeats 4000000 in
set_option maxRecDepth 100000 in
theorem c_X7_undo (l : Launch) (D : va_G) (cI cC cZ : ClassId) (a_M a_M_text a_M_plan a_M_read a_M_readPage a_M_page a_M_trial a_M_book a_M_kept a_M_isKept a_M_seenPoint a_M_seenSum a_M_seenWas : Nat) (sz : Nat) (M_thrown : Int32) (M_textSize : Int32) (M_place : Int32) (M_doings : Int32) (M_seen : Int32) (M_seed : Int64) (M_bestSet : Int32) (M_text : Nat → Int32) (M_plan : Nat → Int32) (M_read : Nat → Int32) (M_readPage : Nat → Int32) (M_page : Nat → Int32) (M_trial : Nat → Int32) (M_book : Nat → Int32) (M_kept : Nat → Int32) (M_isKept : Nat → Int32) (M_seenPoint : Nat → Int32) (M_seenSum : Nat → Int32) (M_seenWas : Nat → Int32) (rr : Int32) (u_M_thrown : Int32) (u_M_doings : Int32) (u_M_page : Nat → Int32) (hf : f_X7_undo M_thrown M_doings M_page M_book = some (rr, u_M_thrown, u_M_doings, u_M_page)) : kMet l yX7_undo cX7_undo 2 (some .int) rm_X7_undo D (kTY cI cC cZ) [.ref a_M] (WD16 cI cC cZ a_M a_M_text a_M_plan a_M_read a_M_readPage a_M_page a_M_trial a_M_book a_M_kept a_M_isKept a_M_seenPoint a_M_seenSum a_M_seenWas M_thrown M_textSize M_place M_doings M_seen M_seed M_bestSet M_text M_plan M_read M_readPage M_page M_trial M_book M_kept M_isKept M_seenPoint M_seenSum M_seenWas) sz (kQI D (kTY cI cC cZ) (va_A (WD16 cI cC cZ a_M a_M_text a_M_plan a_M_read a_M_readPage a_M_page a_M_trial a_M_book a_M_kept a_M_isKept a_M_seenPoint a_M_seenSum a_M_seenWas M_thrown M_textSize M_place M_doings M_seen M_seed M_bestSet M_text M_plan M_read M_readPage M_page M_trial M_book M_kept M_isKept M_seenPoint M_seenSum M_seenWas) sz) rr (WD16 cI cC cZ a_M a_M_text a_M_plan a_M_read a_M_readPage a_M_page a_M_trial a_M_book a_M_kept a_M_isKept a_M_seenPoint a_M_seenSum a_M_seenWas u_M_thrown M_textSize M_place u_M_doings M_seen M_seed M_bestSet M_text M_plan M_read M_readPage u_M_page M_trial M_book M_kept M_isKept M_seenPoint M_seenSum M_seenWas)) := by
  refine kEnter (lv := [(0, .ref a_M)]) (own := RX7) (by decide) rfl (Nat.le_of_ble_eq_true rfl) rfl ?_
  intro p e s m below meth c hsz C0 hP hD hS ls hl
  generalize (va_A (WD16 cI cC cZ a_M a_M_text a_M_plan a_M_read a_M_readPage a_M_page a_M_trial a_M_book a_M_kept a_M_isKept a_M_seenPoint a_M_seenSum a_M_seenWas M_thrown M_textSize M_place M_doings M_seen M_seed M_bestSet M_text M_plan M_read M_readPage M_page M_trial M_book M_kept M_isKept M_seenPoint M_seenSum M_seenWas) sz) = A at C0 hD hS ⊢
  clear hsz hS
  obtain ⟨H, hHs⟩ : ∃ H : Heap, H = s.heap := ⟨_, rfl⟩
  have hS : va_S A s.heap H [] := by rw [hHs]; exact va_S.rf
  rw [← hHs] at hP ⊢
  obtain ⟨hx, hb, hr, hml, hown, hts, hK, hN, hA, hlocks, hF⟩ := id C0
  have h := hf
  unfold f_X7_undo at h
  refine lv_aload_n hx hb dX7_undo_0 rfl (lv_at hl 0 rfl) ?_
  refine lv_iconst (v := (0 : Int32)) hx hb dX7_undo_1 (by decide) ?_
  refine va_put (D := D) (ci := 7) (v := .int (0 : Int32)) (ty := .int) (C := RX7) (T := TX7) (N := 19) hx hb hts inlX7 tyX7 tyX7_ok nmX7 hown hK hP hD hS 0 rfl rfl 0 (by decide) (hts _ kw_109) (fun _ h9 => h9) rfl (by decide +kernel) rfl rfl (Nat.le_of_ble_eq_true rfl) dX7_undo_2 (fun H locs hP hD hS => ?_)
  have hP : va_P D vwCl (WD16 cI cC cZ a_M a_M_text a_M_plan a_M_read a_M_readPage a_M_page a_M_trial a_M_book a_M_kept a_M_isKept a_M_seenPoint a_M_seenSum a_M_seenWas (0 : Int32) M_textSize M_place M_doings M_seen M_seed M_bestSet M_text M_plan M_read M_readPage M_page M_trial M_book M_kept M_isKept M_seenPoint M_seenSum M_seenWas) H := hP
  have hD : va_D A (WD16 cI cC cZ a_M a_M_text a_M_plan a_M_read a_M_readPage a_M_page a_M_trial a_M_book a_M_kept a_M_isKept a_M_seenPoint a_M_seenSum a_M_seenWas (0 : Int32) M_textSize M_place M_doings M_seen M_seed M_bestSet M_text M_plan M_read M_readPage M_page M_trial M_book M_kept M_isKept M_seenPoint M_seenSum M_seenWas) := hD
  refine lv_aload_n hx hb dX7_undo_5 rfl (lv_at hl 0 rfl) ?_
  refine va_get (D := D) (ci := 7) (v := .int M_doings) (C := RX7) (T := TX7) (N := 19) hx hb hts inlX7 hown hK hP 0 rfl rfl 10 (by decide) (hts _ kw_269) (fun _ h9 => h9) rfl dX7_undo_6 ?_
  refine lv_if_ne (tgt := 15) hx hb dX7_undo_9 (by decide) (fun c1 => ?_) (fun c1 => ?_)
  · have h := oc_f c1 h
    refine lv_aload_n hx hb dX7_undo_15 rfl (lv_at hl 0 rfl) ?_
    refine lv_dup hx hb dX7_undo_16 rfl ?_
    refine va_get (D := D) (ci := 7) (v := .int M_doings) (C := RX7) (T := TX7) (N := 19) hx hb hts inlX7 hown hK hP 0 rfl rfl 10 (by decide) (hts _ kw_269) (fun _ h9 => h9) rfl dX7_undo_17 ?_
    refine lv_iconst (v := (1 : Int32)) hx hb dX7_undo_20 (by decide) ?_
    refine lv_isub hx hb dX7_undo_21 ?_
    refine lv_topi (fun t2 e_t2 => ?_)
    have h := oc_nm e_t2 h
    refine va_put (D := D) (ci := 7) (v := .int t2) (ty := .int) (C := RX7) (T := TX7) (N := 19) hx hb hts inlX7 tyX7 tyX7_ok nmX7 hown hK hP hD hS 0 rfl rfl 10 (by decide) (hts _ kw_269) (fun _ h9 => h9) rfl (by decide +kernel) rfl rfl (Nat.le_of_ble_eq_true rfl) dX7_undo_22 (fun H locs hP hD hS => ?_)
    have hP : va_P D vwCl (WD16 cI cC cZ a_M a_M_text a_M_plan a_M_read a_M_readPage a_M_page a_M_trial a_M_book a_M_kept a_M_isKept a_M_seenPoint a_M_seenSum a_M_seenWas (0 : Int32) M_textSize M_place t2 M_seen M_seed M_bestSet M_text M_plan M_read M_readPage M_page M_trial M_book M_kept M_isKept M_seenPoint M_seenSum M_seenWas) H := hP
    have hD : va_D A (WD16 cI cC cZ a_M a_M_text a_M_plan a_M_read a_M_readPage a_M_page a_M_trial a_M_book a_M_kept a_M_isKept a_M_seenPoint a_M_seenSum a_M_seenWas (0 : Int32) M_textSize M_place t2 M_seen M_seed M_bestSet M_text M_plan M_read M_readPage M_page M_trial M_book M_kept M_isKept M_seenPoint M_seenSum M_seenWas) := hD
    refine lv_iconst (v := (0 : Int32)) hx hb dX7_undo_25 (by decide) ?_
    refine lv_istore_n (lv' := [(1, .int (0 : Int32)), (0, .ref a_M)]) hx hb dX7_undo_26 rfl hl (by decide) rfl (fun ls hl => ?_)
    exact wl_X7_undo_27 C0  _ _ _ h _ _ hP hD hS _ (lv_sub hl [1, 0] rfl)
  · have h := oc_t c1 h
    refine lv_bipush (v := (-3 : Int32)) hx hb dX7_undo_12 (by decide) ?_
    cases h
    exact kret_i C0 hP hD hS rfl dX7_undo_14
abbrev rm_X7_isSafe : Room := { frames := 9, cells := 0, slots := 0, locals := 227 }
noncomputable def bk_X7_isSafe_8 (k8 : Int32 → Int32 → Option (Int32)) (M_plan : Nat → Int32) (M_page : Nat → Int32) (p1 : Int32) (p2 : Int32) (p3 : Int32) : Option (Int32) := (f_X7_spots M_plan).bind (fun r2 => if r2 ≤ p3 then (if p2 &&& 1 = p2 then (some p2) else none) else (if p2 = 0 then (nm_ (p3 + (1 : Int32)) (fun t6 => k8 (0 : Int32) t6)) else ((f_X7_has p1 p3).bind (fun r8 => if r8 = 0 then (nm_ (p3 + (1 : Int32)) (fun t10 => k8 (1 : Int32) t10)) else ((f_X7_serves M_plan M_page (p1 &&& (((1 : Int32) <<< (p3 &&& 31)) ^^^ (-1 : Int32)))).bind (fun r12 => if r12 = 0 then (nm_ (p3 + (1 : Int32)) (fun t14 => k8 (0 : Int32) t14)) else (nm_ (p3 + (1 : Int32)) (fun t15 => k8 (1 : Int32) t15))))))))
set_option maxHeartbeats 4000000 in
set_option maxRecDepth 100000 in
theorem wk_X7_isSafe_8 {p : Program} {l : Launch} {e : Env} {s : State} {m : MethodId} {args : Array Value} {below : List Frame} {meth : Method} {c : Code} {D : va_G} {cI cC cZ : ClassId} {A : Nat → Prop} {a_M a_M_text a_M_plan a_M_read a_M_readPage a_M_page a_M_trial a_M_book a_M_kept a_M_isKept a_M_seenPoint a_M_seenSum a_M_seenWas : Nat} {M_thrown : Int32} {M_textSize : Int32} {M_place : Int32} {M_doings : Int32} {M_seen : Int32} {M_seed : Int64} {M_bestSet : Int32} {M_text : Nat → Int32} {M_plan : Nat → Int32} {M_read : Nat → Int32} {M_readPage : Nat → Int32} {M_page : Nat → Int32} {M_trial : Nat → Int32} {M_book : Nat → Int32} {M_kept : Nat → Int32} {M_isKept : Nat → Int32} {M_seenPoint : Nat → Int32} {M_seenSum : Nat → Int32} {M_seenWas : Nat → Int32} {p1 : Int32} {p2 : Int32} {p3 : Int32} {k8 : Int32 → Int32 → Option (Int32)} {rr : Int32} (C0 : kC p s m args meth c D (kTY cI cC cZ) cX7_isSafe (some .boolean) 4 RX7 A) (hk8 : ∀ (p2_k : Int32) (p3_k : Int32), k8 p2_k p3_k = some rr → ∀ (H : Heap) (locs : List Loc), va_P D vwCl (WD16 cI cC cZ a_M a_M_text a_M_plan a_M_read a_M_readPage a_M_page a_M_trial a_M_book a_M_kept a_M_isKept a_M_seenPoint a_M_seenSum a_M_seenWas M_thrown M_textSize M_place M_doings M_seen M_seed M_bestSet M_text M_plan M_read M_readPage M_page M_trial M_book M_kept M_isKept M_seenPoint M_seenSum M_seenWas) H → va_D A (WD16 cI cC cZ a_M a_M_text a_M_plan a_M_read a_M_readPage a_M_page a_M_trial a_M_book a_M_kept a_M_isKept a_M_seenPoint a_M_seenSum a_M_seenWas M_thrown M_textSize M_place M_doings M_seen M_seed M_bestSet M_text M_plan M_read M_readPage M_page M_trial M_book M_kept M_isKept M_seenPoint M_seenSum M_seenWas) → va_S A s.heap H locs → ∀ ls : Array Slot, lv_has ls 4 [(0, .ref a_M), (1, .int p1), (2, .int p2_k), (3, .int p3_k)] → W p l e rm_X7_isSafe s m args below meth c H locs 0 0 (MQ below (kQI D (kTY cI cC cZ) A rr (WD16 cI cC cZ a_M a_M_text a_M_plan a_M_read a_M_readPage a_M_page a_M_trial a_M_book a_M_kept a_M_isKept a_M_seenPoint a_M_seenSum a_M_seenWas M_thrown M_textSize M_place M_doings M_seen M_seed M_bestSet M_text M_plan M_read M_readPage M_page M_trial M_book M_kept M_isKept M_seenPoint M_seenSum M_seenWas)) args s 0 0 A) (F0 m 8 ls [])) (h : bk_X7_isSafe_8 k8 M_plan M_page p1 p2 p3 = some rr) {H : Heap} {locs : List Loc} (hP : va_P D vwCl (WD16 cI cC cZ a_M a_M_text a_M_plan a_M_read a_M_readPage a_M_page a_M_trial a_M_book a_M_kept a_M_isKept a_M_seenPoint a_M_seenSum a_M_seenWas M_thrown M_textSize M_place M_doings M_seen M_seed M_bestSet M_text M_plan M_read M_readPage M_page M_trial M_book M_kept M_isKept M_seenPoint M_seenSum M_seenWas) H) (hD : va_D A (WD16 cI cC cZ a_M a_M_text a_M_plan a_M_read a_M_readPage a_M_page a_M_trial a_M_book a_M_kept a_M_isKept a_M_seenPoint a_M_seenSum a_M_seenWas M_thrown M_textSize M_place M_doings M_seen M_seed M_bestSet M_text M_plan M_read M_readPage M_page M_trial M_book M_kept M_isKept M_seenPoint M_seenSum M_seenWas)) (hS : va_S A s.heap H locs) {ls : Array Slot} (hl : lv_has ls 4 [(0, .ref a_M), (1, .int p1), (2, .int p2), (3, .int p3)]) : W p l e rm_X7_isSafe s m args below meth c H locs 0 0 (MQ below (kQI D (kTY cI cC cZ) A rr (WD16 cI cC cZ a_M a_M_text a_M_plan a_M_read a_M_readPage a_M_page a_M_trial a_M_book a_M_kept a_M_isKept a_M_seenPoint a_M_seenSum a_M_seenWas M_thrown M_textSize M_place M_doings M_seen M_seed M_bestSet M_text M_plan M_read M_readPage M_page M_trial M_book M_kept M_isKept M_seenPoint M_seenSum M_seenWas)) args s 0 0 A) (F0 m 8 ls []) := by
  obtain ⟨hx, hb, hr, hml, hown, hts, hK, hN, hA, hlocks, hF⟩ := id C0
  unfold bk_X7_isSafe_8 at h
  refine lv_iload_n hx hb dX7_isSafe_8 rfl (lv_at hl 3 rfl) ?_
  refine lv_aload_n hx hb dX7_isSafe_9 rfl (lv_at hl 0 rfl) ?_
  obtain ⟨r2, hc1, h⟩ := oc_bind h
  refine kro_i (wc := (WD16 cI cC cZ a_M a_M_text a_M_plan a_M_read a_M_readPage a_M_page a_M_trial a_M_book a_M_kept a_M_isKept a_M_seenPoint a_M_seenSum a_M_seenWas M_thrown M_textSize M_place M_doings M_seen M_seed M_bestSet M_text M_plan M_read M_readPage M_page M_trial M_book M_kept M_isKept M_seenPoint M_seenSum M_seenWas)) C0 hP hD hS [0, 1, 2, 3, 4, 5, 6, 7, 8, 9, 10, 11, 12] rfl (kV (n := 0) (As := []) (rest := [.int p3]) (wc := (WD16 cI cC cZ a_M a_M_text a_M_plan a_M_read a_M_readPage a_M_page a_M_trial a_M_book a_M_kept a_M_isKept a_M_seenPoint a_M_seenSum a_M_seenWas M_thrown M_textSize M_place M_doings M_seen M_seed M_bestSet M_text M_plan M_read M_readPage M_page M_trial M_book M_kept M_isKept M_seenPoint M_seenSum M_seenWas)) (C := RX7) C0 hP hD hS [0, 1, 2, 3, 4, 5, 6, 7, 8, 9, 10, 11, 12] rfl (by decide) (c_X7_spots l D cI cC cZ a_M a_M_text a_M_plan a_M_read a_M_readPage a_M_page a_M_trial a_M_book a_M_kept a_M_isKept a_M_seenPoint a_M_seenSum a_M_seenWas H.size M_thrown M_textSize M_place M_doings M_seen M_seed M_bestSet M_text M_plan M_read M_readPage M_page M_trial M_book M_kept M_isKept M_seenPoint M_seenSum M_seenWas  r2 hc1) kw_280 kw_277 kw_278 kw_279 kw_5 (by decide +kernel) (by decide) rfl rfl rfl hl.1 rfl (Nat.le_of_ble_eq_true rfl) ⟨Nat.zero_le _, Nat.zero_le _⟩ dX7_isSafe_10) (fun H locs hP hS => ?_)
  refine lv_icmp_ge (tgt := 54) hx hb dX7_isSafe_13 (by decide) (fun c3 => ?_) (fun c3 => ?_)
  · have h := oc_t c3 h
    refine lv_iload_n hx hb dX7_isSafe_54 rfl (lv_at hl 2 rfl) ?_
    obtain ⟨hn4, h⟩ := oc_then h
    cases h
    exact kret_i C0 hP hD hS (kn_bool hn4) dX7_isSafe_55
  · have h := oc_f c3 h
    refine lv_iload_n hx hb dX7_isSafe_16 rfl (lv_at hl 2 rfl) ?_
    refine lv_if_eq (tgt := 46) hx hb dX7_isSafe_17 (by decide) (fun c5 => ?_) (fun c5 => ?_)
    · have h := oc_t c5 h
      refine lv_iconst (v := (0 : Int32)) hx hb dX7_isSafe_46 (by decide) ?_
      refine lv_istore_n (lv' := [(2, .int (0 : Int32)), (0, .ref a_M), (1, .int p1), (3, .int p3)]) hx hb dX7_isSafe_47 rfl hl (by decide) rfl (fun ls hl => ?_)
      obtain ⟨t6, e_t6⟩ : ∃ y : Int32, y = p3 + (1 : Int32) := ⟨_, rfl⟩
      have h := oc_nm e_t6 h
      refine lv_iinc (v := t6) (lv' := [(3, .int t6), (2, .int (0 : Int32)), (0, .ref a_M), (1, .int p1)]) hx hb dX7_isSafe_48 hl (k := 3) rfl (by rw [e_t6]; rfl) (by decide) rfl (fun ls hl => ?_)
      refine lv_goto (tgt := 8) hx hb dX7_isSafe_51 (by decide) ?_
      exact hk8 _ _ h _ _ hP hD hS _ (lv_sub hl [2, 3, 1, 0] rfl)
    · have h := oc_f c5 h
      refine lv_iload_n hx hb dX7_isSafe_20 rfl (lv_at hl 1 rfl) ?_
      refine lv_iload_n hx hb dX7_isSafe_21 rfl (lv_at hl 3 rfl) ?_
      obtain ⟨r8, hc7, h⟩ := oc_bind h
      refine kro_i (wc := (WD0 cI cC cZ)) C0 hP hD hS [] rfl (kS (n := 2) (As := [.int p1, .int p3]) (rest := []) (wc := (WD0 cI cC cZ)) C0 hP hD hS [] rfl (by decide) (c_X7_has l D cI cC cZ  H.size  p1 p3 r8 hc7) kw_371 kw_369 kw_370 kw_5 (by decide +kernel) (by decide) rfl hl.1 rfl (Nat.le_of_ble_eq_true rfl) ⟨Nat.zero_le _, Nat.zero_le _⟩ dX7_isSafe_22) (fun H locs hP hS => ?_)
      refine lv_if_eq (tgt := 42) hx hb dX7_isSafe_25 (by decide) (fun c9 => ?_) (fun c9 => ?_)
      · have h := oc_t c9 h
        refine lv_iconst (v := (1 : Int32)) hx hb dX7_isSafe_42 (by decide) ?_
        refine lv_goto (tgt := 47) hx hb dX7_isSafe_43 (by decide) ?_
        refine lv_istore_n (lv' := [(2, .int (1 : Int32)), (0, .ref a_M), (1, .int p1), (3, .int p3)]) hx hb dX7_isSafe_47 rfl hl (by decide) rfl (fun ls hl => ?_)
        obtain ⟨t10, e_t10⟩ : ∃ y : Int32, y = p3 + (1 : Int32) := ⟨_, rfl⟩
        have h := oc_nm e_t10 h
        refine lv_iinc (v := t10) (lv' := [(3, .int t10), (2, .int (1 : Int32)), (0, .ref a_M), (1, .int p1)]) hx hb dX7_isSafe_48 hl (k := 3) rfl (by rw [e_t10]; rfl) (by decide) rfl (fun ls hl => ?_)
        refine lv_goto (tgt := 8) hx hb dX7_isSafe_51 (by decide) ?_
        exact hk8 _ _ h _ _ hP hD hS _ (lv_sub hl [2, 3, 1, 0] rfl)
      · have h := oc_f c9 h
        refine lv_aload_n hx hb dX7_isSafe_28 rfl (lv_at hl 0 rfl) ?_
        refine lv_iload_n hx hb dX7_isSafe_29 rfl (lv_at hl 1 rfl) ?_
        refine lv_iconst (v := (1 : Int32)) hx hb dX7_isSafe_30 (by decide) ?_
        refine lv_iload_n hx hb dX7_isSafe_31 rfl (lv_at hl 3 rfl) ?_
        refine lv_ishl hx hb dX7_isSafe_32 ?_
        refine lv_iconst (v := (-1 : Int32)) hx hb dX7_isSafe_33 (by decide) ?_
        refine lv_ixor hx hb dX7_isSafe_34 ?_
        refine lv_iand hx hb dX7_isSafe_35 ?_
        obtain ⟨r12, hc11, h⟩ := oc_bind h
        refine kro_i (wc := (WD16 cI cC cZ a_M a_M_text a_M_plan a_M_read a_M_readPage a_M_page a_M_trial a_M_book a_M_kept a_M_isKept a_M_seenPoint a_M_seenSum a_M_seenWas M_thrown M_textSize M_place M_doings M_seen M_seed M_bestSet M_text M_plan M_read M_readPage M_page M_trial M_book M_kept M_isKept M_seenPoint M_seenSum M_seenWas)) C0 hP hD hS [0, 1, 2, 3, 4, 5, 6, 7, 8, 9, 10, 11, 12] rfl (kV (n := 1) (As := [.int (p1 &&& (((1 : Int32) <<< (p3 &&& 31)) ^^^ (-1 : Int32)))]) (rest := []) (wc := (WD16 cI cC cZ a_M a_M_text a_M_plan a_M_read a_M_readPage a_M_page a_M_trial a_M_book a_M_kept a_M_isKept a_M_seenPoint a_M_seenSum a_M_seenWas M_thrown M_textSize M_place M_doings M_seen M_seed M_bestSet M_text M_plan M_read M_readPage M_page M_trial M_book M_kept M_isKept M_seenPoint M_seenSum M_seenWas)) (C := RX7) C0 hP hD hS [0, 1, 2, 3, 4, 5, 6, 7, 8, 9, 10, 11, 12] rfl (by decide) (c_X7_serves l D cI cC cZ a_M a_M_text a_M_plan a_M_read a_M_readPage a_M_page a_M_trial a_M_book a_M_kept a_M_isKept a_M_seenPoint a_M_seenSum a_M_seenWas H.size M_thrown M_textSize M_place M_doings M_seen M_seed M_bestSet M_text M_plan M_read M_readPage M_page M_trial M_book M_kept M_isKept M_seenPoint M_seenSum M_seenWas (p1 &&& (((1 : Int32) <<< (p3 &&& 31)) ^^^ (-1 : Int32))) r12 hc11) kw_549 kw_546 kw_547 kw_548 kw_5 (by decide +kernel) (by decide) rfl rfl rfl hl.1 rfl (Nat.le_of_ble_eq_true rfl) ⟨Nat.zero_le _, Nat.zero_le _⟩ dX7_isSafe_36) (fun H locs hP hS => ?_)
        refine lv_if_eq (tgt := 46) hx hb dX7_isSafe_39 (by decide) (fun c13 => ?_) (fun c13 => ?_)
        · have h := oc_t c13 h
          refine lv_iconst (v := (0 : Int32)) hx hb dX7_isSafe_46 (by decide) ?_
          refine lv_istore_n (lv' := [(2, .int (0 : Int32)), (0, .ref a_M), (1, .int p1), (3, .int p3)]) hx hb dX7_isSafe_47 rfl hl (by decide) rfl (fun ls hl => ?_)
          obtain ⟨t14, e_t14⟩ : ∃ y : Int32, y = p3 + (1 : Int32) := ⟨_, rfl⟩
          have h := oc_nm e_t14 h
          refine lv_iinc (v := t14) (lv' := [(3, .int t14), (2, .int (0 : Int32)), (0, .ref a_M), (1, .int p1)]) hx hb dX7_isSafe_48 hl (k := 3) rfl (by rw [e_t14]; rfl) (by decide) rfl (fun ls hl => ?_)
          refine lv_goto (tgt := 8) hx hb dX7_isSafe_51 (by decide) ?_
          exact hk8 _ _ h _ _ hP hD hS _ (lv_sub hl [2, 3, 1, 0] rfl)
        · have h := oc_f c13 h
          refine lv_iconst (v := (1 : Int32)) hx hb dX7_isSafe_42 (by decide) ?_
          refine lv_goto (tgt := 47) hx hb dX7_isSafe_43 (by decide) ?_
          refine lv_istore_n (lv' := [(2, .int (1 : Int32)), (0, .ref a_M), (1, .int p1), (3, .int p3)]) hx hb dX7_isSafe_47 rfl hl (by decide) rfl (fun ls hl => ?_)
          obtain ⟨t15, e_t15⟩ : ∃ y : Int32, y = p3 + (1 : Int32) := ⟨_, rfl⟩
          have h := oc_nm e_t15 h
          refine lv_iinc (v := t15) (lv' := [(3, .int t15), (2, .int (1 : Int32)), (0, .ref a_M), (1, .int p1)]) hx hb dX7_isSafe_48 hl (k := 3) rfl (by rw [e_t15]; rfl) (by decide) rfl (fun ls hl => ?_)
          refine lv_goto (tgt := 8) hx hb dX7_isSafe_51 (by decide) ?_
          exact hk8 _ _ h _ _ hP hD hS _ (lv_sub hl [2, 3, 1, 0] rfl)
noncomputable def lp_X7_isSafe_8  (M_plan : Nat → Int32) (M_page : Nat → Int32) (p1 : Int32) (n : Nat) : Int32 → Int32 → Option (Int32) := Nat.rec (motive := fun _ => Int32 → Int32 → Option (Int32)) (fun _ _ => none) (fun _ ih => bk_X7_isSafe_8  ih M_plan M_page p1) n
set_option maxHeartbeats 4000000 in
set_option maxRecDepth 100000 in
theorem wl_X7_isSafe_8 {p : Program} {l : Launch} {e : Env} {s : State} {m : MethodId} {args : Array Value} {below : List Frame} {meth : Method} {c : Code} {D : va_G} {cI cC cZ : ClassId} {A : Nat → Prop} {a_M a_M_text a_M_plan a_M_read a_M_readPage a_M_page a_M_trial a_M_book a_M_kept a_M_isKept a_M_seenPoint a_M_seenSum a_M_seenWas : Nat} {M_thrown : Int32} {M_textSize : Int32} {M_place : Int32} {M_doings : Int32} {M_seen : Int32} {M_seed : Int64} {M_bestSet : Int32} {M_text : Nat → Int32} {M_plan : Nat → Int32} {M_read : Nat → Int32} {M_readPage : Nat → Int32} {M_page : Nat → Int32} {M_trial : Nat → Int32} {M_book : Nat → Int32} {M_kept : Nat → Int32} {M_isKept : Nat → Int32} {M_seenPoint : Nat → Int32} {M_seenSum : Nat → Int32} {M_seenWas : Nat → Int32} {p1 : Int32}  {rr : Int32} (C0 : kC p s m args meth c D (kTY cI cC cZ) cX7_isSafe (some .boolean) 4 RX7 A)  : ∀ (n : Nat) (p2 : Int32) (p3 : Int32), lp_X7_isSafe_8  M_plan M_page p1 n p2 p3 = some rr → ∀ (H : Heap) (locs : List Loc), va_P D vwCl (WD16 cI cC cZ a_M a_M_text a_M_plan a_M_read a_M_readPage a_M_page a_M_trial a_M_book a_M_kept a_M_isKept a_M_seenPoint a_M_seenSum a_M_seenWas M_thrown M_textSize M_place M_doings M_seen M_seed M_bestSet M_text M_plan M_read M_readPage M_page M_trial M_book M_kept M_isKept M_seenPoint M_seenSum M_seenWas) H → va_D A (WD16 cI cC cZ a_M a_M_text a_M_plan a_M_read a_M_readPage a_M_page a_M_trial a_M_book a_M_kept a_M_isKept a_M_seenPoint a_M_seenSum a_M_seenWas M_thrown M_textSize M_place M_doings M_seen M_seed M_bestSet M_text M_plan M_read M_readPage M_page M_trial M_book M_kept M_isKept M_seenPoint M_seenSum M_seenWas) → va_S A s.heap H locs → ∀ ls : Array Slot, lv_has ls 4 [(0, .ref a_M), (1, .int p1), (2, .int p2), (3, .int p3)] → W p l e rm_X7_isSafe s m args below meth c H locs 0 0 (MQ below (kQI D (kTY cI cC cZ) A rr (WD16 cI cC cZ a_M a_M_text a_M_plan a_M_read a_M_readPage a_M_page a_M_trial a_M_book a_M_kept a_M_isKept a_M_seenPoint a_M_seenSum a_M_seenWas M_thrown M_textSize M_place M_doings M_seen M_seed M_bestSet M_text M_plan M_read M_readPage M_page M_trial M_book M_kept M_isKept M_seenPoint M_seenSum M_seenWas)) args s 0 0 A) (F0 m 8 ls []) := by
  intro n
  induction n with
  | zero => intro p2 p3 h; cases (show (none : Option (Int32)) = some _ from h)
  | succ n ih =>
    intro p2 p3 h H locs hP hD hS ls hl
    exact wk_X7_isSafe_8 C0  (fun p2 p3 h H locs hP hD hS ls hl => ih p2 p3 h H locs hP hD hS ls hl) (show bk_X7_isSafe_8  (lp_X7_isSafe_8  M_plan M_page p1 n) M_plan M_page p1 p2 p3 = some _ from h) hP hD hS hl
noncomputable def f_X7_isSafe (M_plan : Nat → Int32) (M_page : Nat → Int32) (p1 : Int32) : Option (Int32) := (f_X7_serves M_plan M_page p1).bind (fun r2 => lp_X7_isSafe_8  M_plan M_page p1 1000 r2 (0 : Int32))
set_option maxHeartbeats 4000000 in
set_option maxRecDepth 100000 in
theorem c_X7_isSafe (l : Launch) (D : va_G) (cI cC cZ : ClassId) (a_M a_M_text a_M_plan a_M_read a_M_readPage a_M_page a_M_trial a_M_book a_M_kept a_M_isKept a_M_seenPoint a_M_seenSum a_M_seenWas : Nat) (sz : Nat) (M_thrown : Int32) (M_textSize : Int32) (M_place : Int32) (M_doings : Int32) (M_seen : Int32) (M_seed : Int64) (M_bestSet : Int32) (M_text : Nat → Int32) (M_plan : Nat → Int32) (M_read : Nat → Int32) (M_readPage : Nat → Int32) (M_page : Nat → Int32) (M_trial : Nat → Int32) (M_book : Nat → Int32) (M_kept : Nat → Int32) (M_isKept : Nat → Int32) (M_seenPoint : Nat → Int32) (M_seenSum : Nat → Int32) (M_seenWas : Nat → Int32) (p1 : Int32) (rr : Int32) (hf : f_X7_isSafe M_plan M_page p1 = some rr) : kMet l yX7_isSafe cX7_isSafe 4 (some .boolean) rm_X7_isSafe D (kTY cI cC cZ) [.ref a_M, .int p1] (WD16 cI cC cZ a_M a_M_text a_M_plan a_M_read a_M_readPage a_M_page a_M_trial a_M_book a_M_kept a_M_isKept a_M_seenPoint a_M_seenSum a_M_seenWas M_thrown M_textSize M_place M_doings M_seen M_seed M_bestSet M_text M_plan M_read M_readPage M_page M_trial M_book M_kept M_isKept M_seenPoint M_seenSum M_seenWas) sz (kQI D (kTY cI cC cZ) (va_A (WD16 cI cC cZ a_M a_M_text a_M_plan a_M_read a_M_readPage a_M_page a_M_trial a_M_book a_M_kept a_M_isKept a_M_seenPoint a_M_seenSum a_M_seenWas M_thrown M_textSize M_place M_doings M_seen M_seed M_bestSet M_text M_plan M_read M_readPage M_page M_trial M_book M_kept M_isKept M_seenPoint M_seenSum M_seenWas) sz) rr (WD16 cI cC cZ a_M a_M_text a_M_plan a_M_read a_M_readPage a_M_page a_M_trial a_M_book a_M_kept a_M_isKept a_M_seenPoint a_M_seenSum a_M_seenWas M_thrown M_textSize M_place M_doings M_seen M_seed M_bestSet M_text M_plan M_read M_readPage M_page M_trial M_book M_kept M_isKept M_seenPoint M_seenSum M_seenWas)) := by
  refine kEnter (lv := [(0, .ref a_M), (1, .int p1)]) (own := RX7) (by decide) rfl (Nat.le_of_ble_eq_true rfl) rfl ?_
  intro p e s m below meth c hsz C0 hP hD hS ls hl
  generalize (va_A (WD16 cI cC cZ a_M a_M_text a_M_plan a_M_read a_M_readPage a_M_page a_M_trial a_M_book a_M_kept a_M_isKept a_M_seenPoint a_M_seenSum a_M_seenWas M_thrown M_textSize M_place M_doings M_seen M_seed M_bestSet M_text M_plan M_read M_readPage M_page M_trial M_book M_kept M_isKept M_seenPoint M_seenSum M_seenWas) sz) = A at C0 hD hS ⊢
  clear hsz hS
  obtain ⟨H, hHs⟩ : ∃ H : Heap, H = s.heap := ⟨_, rfl⟩
  have hS : va_S A s.heap H [] := by rw [hHs]; exact va_S.rf
  rw [← hHs] at hP ⊢
  obtain ⟨hx, hb, hr, hml, hown, hts, hK, hN, hA, hlocks, hF⟩ := id C0
  have h := hf
  unfold f_X7_isSafe at h
  refine lv_aload_n hx hb dX7_isSafe_0 rfl (lv_at hl 0 rfl) ?_
  refine lv_iload_n hx hb dX7_isSafe_1 rfl (lv_at hl 1 rfl) ?_
  obtain ⟨r2, hc1, h⟩ := oc_bind h
  refine kro_i (wc := (WD16 cI cC cZ a_M a_M_text a_M_plan a_M_read a_M_readPage a_M_page a_M_trial a_M_book a_M_kept a_M_isKept a_M_seenPoint a_M_seenSum a_M_seenWas M_thrown M_textSize M_place M_doings M_seen M_seed M_bestSet M_text M_plan M_read M_readPage M_page M_trial M_book M_kept M_isKept M_seenPoint M_seenSum M_seenWas)) C0 hP hD hS [0, 1, 2, 3, 4, 5, 6, 7, 8, 9, 10, 11, 12] rfl (kV (n := 1) (As := [.int p1]) (rest := []) (wc := (WD16 cI cC cZ a_M a_M_text a_M_plan a_M_read a_M_readPage a_M_page a_M_trial a_M_book a_M_kept a_M_isKept a_M_seenPoint a_M_seenSum a_M_seenWas M_thrown M_textSize M_place M_doings M_seen M_seed M_bestSet M_text M_plan M_read M_readPage M_page M_trial M_book M_kept M_isKept M_seenPoint M_seenSum M_seenWas)) (C := RX7) C0 hP hD hS [0, 1, 2, 3, 4, 5, 6, 7, 8, 9, 10, 11, 12] rfl (by decide) (c_X7_serves l D cI cC cZ a_M a_M_text a_M_plan a_M_read a_M_readPage a_M_page a_M_trial a_M_book a_M_kept a_M_isKept a_M_seenPoint a_M_seenSum a_M_seenWas H.size M_thrown M_textSize M_place M_doings M_seen M_seed M_bestSet M_text M_plan M_read M_readPage M_page M_trial M_book M_kept M_isKept M_seenPoint M_seenSum M_seenWas p1 r2 hc1) kw_549 kw_546 kw_547 kw_548 kw_5 (by decide +kernel) (by decide) rfl rfl rfl hl.1 rfl (Nat.le_of_ble_eq_true rfl) ⟨Nat.zero_le _, Nat.zero_le _⟩ dX7_isSafe_2) (fun H locs hP hS => ?_)
  refine lv_istore_n (lv' := [(2, .int r2), (0, .ref a_M), (1, .int p1)]) hx hb dX7_isSafe_5 rfl hl (by decide) rfl (fun ls hl => ?_)
  refine lv_iconst (v := (0 : Int32)) hx hb dX7_isSafe_6 (by decide) ?_
  refine lv_istore_n (lv' := [(3, .int (0 : Int32)), (2, .int r2), (0, .ref a_M), (1, .int p1)]) hx hb dX7_isSafe_7 rfl hl (by decide) rfl (fun ls hl => ?_)
  exact wl_X7_isSafe_8 C0  _ _ _ h _ _ hP hD hS _ (lv_sub hl [2, 3, 1, 0] rfl)
abbrev rm_X7_layBest : Room := { frames := 10, cells := 0, slots := 0, locals := 250 }
noncomputable def bk_X7_layBest_70 (k10 : Int32 → Int32 → Int32 → Option (Int32)) (M_bestSet : Int32) (M_plan : Nat → Int32) (M_page : Nat → Int32) (p1 : Int32) (p2 : Int32) (p3 : Int32) (s0 : Int32) : Option (Int32) := if M_bestSet = (-9 : Int32) then (nm_ (p3 + (1 : Int32)) (fun t2 => k10 p3 s0 t2)) else (if p2 ≤ s0 then (nm_ (p3 + (1 : Int32)) (fun t4 => k10 M_bestSet p2 t4)) else (nm_ (p3 + (1 : Int32)) (fun t5 => k10 p3 s0 t5)))
set_option maxHeartbeats 4000000 in
set_option maxRecDepth 100000 in
theorem wk_X7_layBest_70 {p : Program} {l : Launch} {e : Env} {s : State} {m : MethodId} {args : Array Value} {below : List Frame} {meth : Method} {c : Code} {D : va_G} {cI cC cZ : ClassId} {A : Nat → Prop} {a_M a_M_text a_M_plan a_M_read a_M_readPage a_M_page a_M_trial a_M_book a_M_kept a_M_isKept a_M_seenPoint a_M_seenSum a_M_seenWas : Nat} {M_thrown : Int32} {M_textSize : Int32} {M_place : Int32} {M_doings : Int32} {M_seen : Int32} {M_seed : Int64} {M_bestSet : Int32} {M_text : Nat → Int32} {M_plan : Nat → Int32} {M_read : Nat → Int32} {M_readPage : Nat → Int32} {M_page : Nat → Int32} {M_trial : Nat → Int32} {M_book : Nat → Int32} {M_kept : Nat → Int32} {M_isKept : Nat → Int32} {M_seenPoint : Nat → Int32} {M_seenSum : Nat → Int32} {M_seenWas : Nat → Int32} {p1 : Int32} {p2 : Int32} {p3 : Int32} {s0 : Int32} {k10 : Int32 → Int32 → Int32 → Option (Int32)} {u_M_bestSet : Int32} (C0 : kC p s m args meth c D (kTY cI cC cZ) cX7_layBest none 5 RX7 A) (hk10 : ∀ (M_bestSet_k : Int32) (p2_k : Int32) (p3_k : Int32), k10 M_bestSet_k p2_k p3_k = some u_M_bestSet → ∀ (H : Heap) (locs : List Loc), va_P D vwCl (WD16 cI cC cZ a_M a_M_text a_M_plan a_M_read a_M_readPage a_M_page a_M_trial a_M_book a_M_kept a_M_isKept a_M_seenPoint a_M_seenSum a_M_seenWas M_thrown M_textSize M_place M_doings M_seen M_seed M_bestSet_k M_text M_plan M_read M_readPage M_page M_trial M_book M_kept M_isKept M_seenPoint M_seenSum M_seenWas) H → va_D A (WD16 cI cC cZ a_M a_M_text a_M_plan a_M_read a_M_readPage a_M_page a_M_trial a_M_book a_M_kept a_M_isKept a_M_seenPoint a_M_seenSum a_M_seenWas M_thrown M_textSize M_place M_doings M_seen M_seed M_bestSet_k M_text M_plan M_read M_readPage M_page M_trial M_book M_kept M_isKept M_seenPoint M_seenSum M_seenWas) → va_S A s.heap H locs → ∀ ls : Array Slot, lv_has ls 5 [(0, .ref a_M), (1, .int p1), (2, .int p2_k), (3, .int p3_k)] → W p l e rm_X7_layBest s m args below meth c H locs 0 0 (MQ below (kQV D (kTY cI cC cZ) A (WD16 cI cC cZ a_M a_M_text a_M_plan a_M_read a_M_readPage a_M_page a_M_trial a_M_book a_M_kept a_M_isKept a_M_seenPoint a_M_seenSum a_M_seenWas M_thrown M_textSize M_place M_doings M_seen M_seed u_M_bestSet M_text M_plan M_read M_readPage M_page M_trial M_book M_kept M_isKept M_seenPoint M_seenSum M_seenWas)) args s 0 0 A) (F0 m 10 ls [])) (h : bk_X7_layBest_70 k10 M_bestSet M_plan M_page p1 p2 p3 s0 = some u_M_bestSet) {H : Heap} {locs : List Loc} (hP : va_P D vwCl (WD16 cI cC cZ a_M a_M_text a_M_plan a_M_read a_M_readPage a_M_page a_M_trial a_M_book a_M_kept a_M_isKept a_M_seenPoint a_M_seenSum a_M_seenWas M_thrown M_textSize M_place M_doings M_seen M_seed M_bestSet M_text M_plan M_read M_readPage M_page M_trial M_book M_kept M_isKept M_seenPoint M_seenSum M_seenWas) H) (hD : va_D A (WD16 cI cC cZ a_M a_M_text a_M_plan a_M_read a_M_readPage a_M_page a_M_trial a_M_book a_M_kept a_M_isKept a_M_seenPoint a_M_seenSum a_M_seenWas M_thrown M_textSize M_place M_doings M_seen M_seed M_bestSet M_text M_plan M_read M_readPage M_page M_trial M_book M_kept M_isKept M_seenPoint M_seenSum M_seenWas)) (hS : va_S A s.heap H locs) {ls : Array Slot} (hl : lv_has ls 5 [(0, .ref a_M), (1, .int p1), (2, .int p2), (3, .int p3)]) : W p l e rm_X7_layBest s m args below meth c H locs 0 0 (MQ below (kQV D (kTY cI cC cZ) A (WD16 cI cC cZ a_M a_M_text a_M_plan a_M_read a_M_readPage a_M_page a_M_trial a_M_book a_M_kept a_M_isKept a_M_seenPoint a_M_seenSum a_M_seenWas M_thrown M_textSize M_place M_doings M_seen M_seed u_M_bestSet M_text M_plan M_read M_readPage M_page M_trial M_book M_kept M_isKept M_seenPoint M_seenSum M_seenWas)) args s 0 0 A) (F0 m 70 ls [.int s0]) := by
  obtain ⟨hx, hb, hr, hml, hown, hts, hK, hN, hA, hlocks, hF⟩ := id C0
  unfold bk_X7_layBest_70 at h
  refine lv_istore (lv' := [(4, .int s0), (0, .ref a_M), (1, .int p1), (2, .int p2), (3, .int p3)]) hx hb dX7_layBest_70 hl (by decide) rfl (fun ls hl => ?_)
  refine lv_aload_n hx hb dX7_layBest_72 rfl (lv_at hl 1 rfl) ?_
  refine va_get (D := D) (ci := 7) (v := .int M_bestSet) (C := RX7) (T := TX7) (N := 19) hx hb hts inlX7 hown hK hP 0 rfl rfl 18 (by decide) (hts _ kw_96) (fun _ h9 => h9) rfl dX7_layBest_73 ?_
  refine lv_bipush (v := (-9 : Int32)) hx hb dX7_layBest_76 (by decide) ?_
  refine lv_icmp_eq (tgt := 87) hx hb dX7_layBest_78 (by decide) (fun c1 => ?_) (fun c1 => ?_)
  · have h := oc_t c1 h
    refine lv_aload_n hx hb dX7_layBest_87 rfl (lv_at hl 1 rfl) ?_
    refine lv_iload_n hx hb dX7_layBest_88 rfl (lv_at hl 4 rfl) ?_
    refine va_put (D := D) (ci := 7) (v := .int p3) (ty := .int) (C := RX7) (T := TX7) (N := 19) hx hb hts inlX7 tyX7 tyX7_ok nmX7 hown hK hP hD hS 0 rfl rfl 18 (by decide) (hts _ kw_96) (fun _ h9 => h9) rfl (by decide +kernel) rfl rfl (Nat.le_of_ble_eq_true rfl) dX7_layBest_89 (fun H locs hP hD hS => ?_)
    have hP : va_P D vwCl (WD16 cI cC cZ a_M a_M_text a_M_plan a_M_read a_M_readPage a_M_page a_M_trial a_M_book a_M_kept a_M_isKept a_M_seenPoint a_M_seenSum a_M_seenWas M_thrown M_textSize M_place M_doings M_seen M_seed p3 M_text M_plan M_read M_readPage M_page M_trial M_book M_kept M_isKept M_seenPoint M_seenSum M_seenWas) H := hP
    have hD : va_D A (WD16 cI cC cZ a_M a_M_text a_M_plan a_M_read a_M_readPage a_M_page a_M_trial a_M_book a_M_kept a_M_isKept a_M_seenPoint a_M_seenSum a_M_seenWas M_thrown M_textSize M_place M_doings M_seen M_seed p3 M_text M_plan M_read M_readPage M_page M_trial M_book M_kept M_isKept M_seenPoint M_seenSum M_seenWas) := hD
    refine lv_iload hx hb dX7_layBest_92 (lv_at hl 0 rfl) ?_
    refine lv_istore_n (lv' := [(2, .int s0), (4, .int s0), (0, .ref a_M), (1, .int p1), (3, .int p3)]) hx hb dX7_layBest_94 rfl hl (by decide) rfl (fun ls hl => ?_)
    obtain ⟨t2, e_t2⟩ : ∃ y : Int32, y = p3 + (1 : Int32) := ⟨_, rfl⟩
    have h := oc_nm e_t2 h
    refine lv_iinc (v := t2) (lv' := [(3, .int t2), (2, .int s0), (4, .int s0), (0, .ref a_M), (1, .int p1)]) hx hb dX7_layBest_95 hl (k := 4) rfl (by rw [e_t2]; rfl) (by decide) rfl (fun ls hl => ?_)
    refine lv_goto (tgt := 10) hx hb dX7_layBest_98 (by decide) ?_
    exact hk10 _ _ _ h _ _ hP hD hS _ (lv_sub hl [3, 4, 1, 0] rfl)
  · have h := oc_f c1 h
    refine lv_iload hx hb dX7_layBest_81 (lv_at hl 0 rfl) ?_
    refine lv_iload_n hx hb dX7_layBest_83 rfl (lv_at hl 3 rfl) ?_
    refine lv_icmp_ge (tgt := 95) hx hb dX7_layBest_84 (by decide) (fun c3 => ?_) (fun c3 => ?_)
    · have h := oc_t c3 h
      obtain ⟨t4, e_t4⟩ : ∃ y : Int32, y = p3 + (1 : Int32) := ⟨_, rfl⟩
      have h := oc_nm e_t4 h
      refine lv_iinc (v := t4) (lv' := [(3, .int t4), (4, .int s0), (0, .ref a_M), (1, .int p1), (2, .int p2)]) hx hb dX7_layBest_95 hl (k := 4) rfl (by rw [e_t4]; rfl) (by decide) rfl (fun ls hl => ?_)
      refine lv_goto (tgt := 10) hx hb dX7_layBest_98 (by decide) ?_
      exact hk10 _ _ _ h _ _ hP hD hS _ (lv_sub hl [2, 3, 4, 0] rfl)
    · have h := oc_f c3 h
      refine lv_aload_n hx hb dX7_layBest_87 rfl (lv_at hl 1 rfl) ?_
      refine lv_iload_n hx hb dX7_layBest_88 rfl (lv_at hl 4 rfl) ?_
      refine va_put (D := D) (ci := 7) (v := .int p3) (ty := .int) (C := RX7) (T := TX7) (N := 19) hx hb hts inlX7 tyX7 tyX7_ok nmX7 hown hK hP hD hS 0 rfl rfl 18 (by decide) (hts _ kw_96) (fun _ h9 => h9) rfl (by decide +kernel) rfl rfl (Nat.le_of_ble_eq_true rfl) dX7_layBest_89 (fun H locs hP hD hS => ?_)
      have hP : va_P D vwCl (WD16 cI cC cZ a_M a_M_text a_M_plan a_M_read a_M_readPage a_M_page a_M_trial a_M_book a_M_kept a_M_isKept a_M_seenPoint a_M_seenSum a_M_seenWas M_thrown M_textSize M_place M_doings M_seen M_seed p3 M_text M_plan M_read M_readPage M_page M_trial M_book M_kept M_isKept M_seenPoint M_seenSum M_seenWas) H := hP
      have hD : va_D A (WD16 cI cC cZ a_M a_M_text a_M_plan a_M_read a_M_readPage a_M_page a_M_trial a_M_book a_M_kept a_M_isKept a_M_seenPoint a_M_seenSum a_M_seenWas M_thrown M_textSize M_place M_doings M_seen M_seed p3 M_text M_plan M_read M_readPage M_page M_trial M_book M_kept M_isKept M_seenPoint M_seenSum M_seenWas) := hD
      refine lv_iload hx hb dX7_layBest_92 (lv_at hl 0 rfl) ?_
      refine lv_istore_n (lv' := [(2, .int s0), (4, .int s0), (0, .ref a_M), (1, .int p1), (3, .int p3)]) hx hb dX7_layBest_94 rfl hl (by decide) rfl (fun ls hl => ?_)
      obtain ⟨t5, e_t5⟩ : ∃ y : Int32, y = p3 + (1 : Int32) := ⟨_, rfl⟩
      have h := oc_nm e_t5 h
      refine lv_iinc (v := t5) (lv' := [(3, .int t5), (2, .int s0), (4, .int s0), (0, .ref a_M), (1, .int p1)]) hx hb dX7_layBest_95 hl (k := 4) rfl (by rw [e_t5]; rfl) (by decide) rfl (fun ls hl => ?_)
      refine lv_goto (tgt := 10) hx hb dX7_layBest_98 (by decide) ?_
      exact hk10 _ _ _ h _ _ hP hD hS _ (lv_sub hl [3, 4, 1, 0] rfl)
noncomputable def bk_X7_layBest_44 (k10 : Int32 → Int32 → Int32 → Option (Int32)) (M_bestSet : Int32) (M_plan : Nat → Int32) (M_page : Nat → Int32) (p1 : Int32) (p2 : Int32) (p3 : Int32) : Option (Int32) := if p1 = 0 then ((f_X7_ones p3).bind (fun r5 => (f_X7_priceOf M_plan p3).bind (fun r7 => bk_X7_layBest_70 k10 M_bestSet M_plan M_page p1 p2 p3 (((1000 : Int32) * r5) + r7)))) else ((f_X7_priceOf M_plan p3).bind (fun r3 => bk_X7_layBest_70 k10 M_bestSet M_plan M_page p1 p2 p3 r3))
set_option maxHeartbeats 4000000 in
set_option maxRecDepth 100000 in
theorem wk_X7_layBest_44 {p : Program} {l : Launch} {e : Env} {s : State} {m : MethodId} {args : Array Value} {below : List Frame} {meth : Method} {c : Code} {D : va_G} {cI cC cZ : ClassId} {A : Nat → Prop} {a_M a_M_text a_M_plan a_M_read a_M_readPage a_M_page a_M_trial a_M_book a_M_kept a_M_isKept a_M_seenPoint a_M_seenSum a_M_seenWas : Nat} {M_thrown : Int32} {M_textSize : Int32} {M_place : Int32} {M_doings : Int32} {M_seen : Int32} {M_seed : Int64} {M_bestSet : Int32} {M_text : Nat → Int32} {M_plan : Nat → Int32} {M_read : Nat → Int32} {M_readPage : Nat → Int32} {M_page : Nat → Int32} {M_trial : Nat → Int32} {M_book : Nat → Int32} {M_kept : Nat → Int32} {M_isKept : Nat → Int32} {M_seenPoint : Nat → Int32} {M_seenSum : Nat → Int32} {M_seenWas : Nat → Int32} {p1 : Int32} {p2 : Int32} {p3 : Int32} {k10 : Int32 → Int32 → Int32 → Option (Int32)} {u_M_bestSet : Int32} (C0 : kC p s m args meth c D (kTY cI cC cZ) cX7_layBest none 5 RX7 A) (hk10 : ∀ (M_bestSet_k : Int32) (p2_k : Int32) (p3_k : Int32), k10 M_bestSet_k p2_k p3_k = some u_M_bestSet → ∀ (H : Heap) (locs : List Loc), va_P D vwCl (WD16 cI cC cZ a_M a_M_text a_M_plan a_M_read a_M_readPage a_M_page a_M_trial a_M_book a_M_kept a_M_isKept a_M_seenPoint a_M_seenSum a_M_seenWas M_thrown M_textSize M_place M_doings M_seen M_seed M_bestSet_k M_text M_plan M_read M_readPage M_page M_trial M_book M_kept M_isKept M_seenPoint M_seenSum M_seenWas) H → va_D A (WD16 cI cC cZ a_M a_M_text a_M_plan a_M_read a_M_readPage a_M_page a_M_trial a_M_book a_M_kept a_M_isKept a_M_seenPoint a_M_seenSum a_M_seenWas M_thrown M_textSize M_place M_doings M_seen M_seed M_bestSet_k M_text M_plan M_read M_readPage M_page M_trial M_book M_kept M_isKept M_seenPoint M_seenSum M_seenWas) → va_S A s.heap H locs → ∀ ls : Array Slot, lv_has ls 5 [(0, .ref a_M), (1, .int p1), (2, .int p2_k), (3, .int p3_k)] → W p l e rm_X7_layBest s m args below meth c H locs 0 0 (MQ below (kQV D (kTY cI cC cZ) A (WD16 cI cC cZ a_M a_M_text a_M_plan a_M_read a_M_readPage a_M_page a_M_trial a_M_book a_M_kept a_M_isKept a_M_seenPoint a_M_seenSum a_M_seenWas M_thrown M_textSize M_place M_doings M_seen M_seed u_M_bestSet M_text M_plan M_read M_readPage M_page M_trial M_book M_kept M_isKept M_seenPoint M_seenSum M_seenWas)) args s 0 0 A) (F0 m 10 ls [])) (h : bk_X7_layBest_44 k10 M_bestSet M_plan M_page p1 p2 p3 = some u_M_bestSet) {H : Heap} {locs : List Loc} (hP : va_P D vwCl (WD16 cI cC cZ a_M a_M_text a_M_plan a_M_read a_M_readPage a_M_page a_M_trial a_M_book a_M_kept a_M_isKept a_M_seenPoint a_M_seenSum a_M_seenWas M_thrown M_textSize M_place M_doings M_seen M_seed M_bestSet M_text M_plan M_read M_readPage M_page M_trial M_book M_kept M_isKept M_seenPoint M_seenSum M_seenWas) H) (hD : va_D A (WD16 cI cC cZ a_M a_M_text a_M_plan a_M_read a_M_readPage a_M_page a_M_trial a_M_book a_M_kept a_M_isKept a_M_seenPoint a_M_seenSum a_M_seenWas M_thrown M_textSize M_place M_doings M_seen M_seed M_bestSet M_text M_plan M_read M_readPage M_page M_trial M_book M_kept M_isKept M_seenPoint M_seenSum M_seenWas)) (hS : va_S A s.heap H locs) {ls : Array Slot} (hl : lv_has ls 5 [(0, .ref a_M), (1, .int p1), (2, .int p2), (3, .int p3)]) : W p l e rm_X7_layBest s m args below meth c H locs 0 0 (MQ below (kQV D (kTY cI cC cZ) A (WD16 cI cC cZ a_M a_M_text a_M_plan a_M_read a_M_readPage a_M_page a_M_trial a_M_book a_M_kept a_M_isKept a_M_seenPoint a_M_seenSum a_M_seenWas M_thrown M_textSize M_place M_doings M_seen M_seed u_M_bestSet M_text M_plan M_read M_readPage M_page M_trial M_book M_kept M_isKept M_seenPoint M_seenSum M_seenWas)) args s 0 0 A) (F0 m 44 ls []) := by
  obtain ⟨hx, hb, hr, hml, hown, hts, hK, hN, hA, hlocks, hF⟩ := id C0
  unfold bk_X7_layBest_44 at h
  refine lv_iload_n hx hb dX7_layBest_44 rfl (lv_at hl 1 rfl) ?_
  refine lv_if_ne (tgt := 65) hx hb dX7_layBest_45 (by decide) (fun c1 => ?_) (fun c1 => ?_)
  · have h := oc_f c1 h
    refine lv_aload_n hx hb dX7_layBest_65 rfl (lv_at hl 0 rfl) ?_
    refine lv_iload_n hx hb dX7_layBest_66 rfl (lv_at hl 3 rfl) ?_
    obtain ⟨r3, hc2, h⟩ := oc_bind h
    refine kro_i (wc := (WD16 cI cC cZ a_M a_M_text a_M_plan a_M_read a_M_readPage a_M_page a_M_trial a_M_book a_M_kept a_M_isKept a_M_seenPoint a_M_seenSum a_M_seenWas M_thrown M_textSize M_place M_doings M_seen M_seed M_bestSet M_text M_plan M_read M_readPage M_page M_trial M_book M_kept M_isKept M_seenPoint M_seenSum M_seenWas)) C0 hP hD hS [0, 1, 2, 3, 4, 5, 6, 7, 8, 9, 10, 11, 12] rfl (kV (n := 1) (As := [.int p3]) (rest := []) (wc := (WD16 cI cC cZ a_M a_M_text a_M_plan a_M_read a_M_readPage a_M_page a_M_trial a_M_book a_M_kept a_M_isKept a_M_seenPoint a_M_seenSum a_M_seenWas M_thrown M_textSize M_place M_doings M_seen M_seed M_bestSet M_text M_plan M_read M_readPage M_page M_trial M_book M_kept M_isKept M_seenPoint M_seenSum M_seenWas)) (C := RX7) C0 hP hD hS [0, 1, 2, 3, 4, 5, 6, 7, 8, 9, 10, 11, 12] rfl (by decide) (c_X7_priceOf l D cI cC cZ a_M a_M_text a_M_plan a_M_read a_M_readPage a_M_page a_M_trial a_M_book a_M_kept a_M_isKept a_M_seenPoint a_M_seenSum a_M_seenWas H.size M_thrown M_textSize M_place M_doings M_seen M_seed M_bestSet M_text M_plan M_read M_readPage M_page M_trial M_book M_kept M_isKept M_seenPoint M_seenSum M_seenWas p3 r3 hc2) kw_400 kw_397 kw_398 kw_399 kw_5 (by decide +kernel) (by decide) rfl rfl rfl hl.1 rfl (Nat.le_of_ble_eq_true rfl) ⟨Nat.zero_le _, Nat.zero_le _⟩ dX7_layBest_67) (fun H locs hP hS => ?_)
    exact wk_X7_layBest_70 C0 hk10 h hP hD hS (lv_sub hl [0, 1, 2, 3] rfl)
  · have h := oc_t c1 h
    refine lv_sipush (v := (1000 : Int32)) hx hb dX7_layBest_48 (by decide) ?_
    refine lv_iload_n hx hb dX7_layBest_51 rfl (lv_at hl 3 rfl) ?_
    obtain ⟨r5, hc4, h⟩ := oc_bind h
    refine kro_i (wc := (WD0 cI cC cZ)) C0 hP hD hS [] rfl (kS (n := 1) (As := [.int p3]) (rest := [.int (1000 : Int32)]) (wc := (WD0 cI cC cZ)) C0 hP hD hS [] rfl (by decide) (c_X7_ones l D cI cC cZ  H.size  p3 r5 hc4) kw_464 kw_462 kw_463 kw_5 (by decide +kernel) (by decide) rfl hl.1 rfl (Nat.le_of_ble_eq_true rfl) ⟨Nat.zero_le _, Nat.zero_le _⟩ dX7_layBest_52) (fun H locs hP hS => ?_)
    refine lv_imul hx hb dX7_layBest_55 ?_
    refine lv_aload_n hx hb dX7_layBest_56 rfl (lv_at hl 0 rfl) ?_
    refine lv_iload_n hx hb dX7_layBest_57 rfl (lv_at hl 3 rfl) ?_
    obtain ⟨r7, hc6, h⟩ := oc_bind h
    refine kro_i (wc := (WD16 cI cC cZ a_M a_M_text a_M_plan a_M_read a_M_readPage a_M_page a_M_trial a_M_book a_M_kept a_M_isKept a_M_seenPoint a_M_seenSum a_M_seenWas M_thrown M_textSize M_place M_doings M_seen M_seed M_bestSet M_text M_plan M_read M_readPage M_page M_trial M_book M_kept M_isKept M_seenPoint M_seenSum M_seenWas)) C0 hP hD hS [0, 1, 2, 3, 4, 5, 6, 7, 8, 9, 10, 11, 12] rfl (kV (n := 1) (As := [.int p3]) (rest := [.int ((1000 : Int32) * r5)]) (wc := (WD16 cI cC cZ a_M a_M_text a_M_plan a_M_read a_M_readPage a_M_page a_M_trial a_M_book a_M_kept a_M_isKept a_M_seenPoint a_M_seenSum a_M_seenWas M_thrown M_textSize M_place M_doings M_seen M_seed M_bestSet M_text M_plan M_read M_readPage M_page M_trial M_book M_kept M_isKept M_seenPoint M_seenSum M_seenWas)) (C := RX7) C0 hP hD hS [0, 1, 2, 3, 4, 5, 6, 7, 8, 9, 10, 11, 12] rfl (by decide) (c_X7_priceOf l D cI cC cZ a_M a_M_text a_M_plan a_M_read a_M_readPage a_M_page a_M_trial a_M_book a_M_kept a_M_isKept a_M_seenPoint a_M_seenSum a_M_seenWas H.size M_thrown M_textSize M_place M_doings M_seen M_seed M_bestSet M_text M_plan M_read M_readPage M_page M_trial M_book M_kept M_isKept M_seenPoint M_seenSum M_seenWas p3 r7 hc6) kw_400 kw_397 kw_398 kw_399 kw_5 (by decide +kernel) (by decide) rfl rfl rfl hl.1 rfl (Nat.le_of_ble_eq_true rfl) ⟨Nat.zero_le _, Nat.zero_le _⟩ dX7_layBest_58) (fun H locs hP hS => ?_)
    refine lv_iadd hx hb dX7_layBest_61 ?_
    refine lv_goto (tgt := 70) hx hb dX7_layBest_62 (by decide) ?_
    exact wk_X7_layBest_70 C0 hk10 h hP hD hS (lv_sub hl [0, 1, 2, 3] rfl)
noncomputable def bk_X7_layBest_10 (k10 : Int32 → Int32 → Int32 → Option (Int32)) (M_plan : Nat → Int32) (M_page : Nat → Int32) (p1 : Int32) (M_bestSet : Int32) (p2 : Int32) (p3 : Int32) : Option (Int32) := (f_X7_spots M_plan).bind (fun r2 => if ((1 : Int32) <<< (r2 &&& 31)) ≤ p3 then (some M_bestSet) else (if p1 = (2 : Int32) then ((f_X7_isSafe M_plan M_page p3).bind (fun r10 => if r10 = 0 then (nm_ (p3 + (1 : Int32)) (fun t12 => k10 M_bestSet p2 t12)) else (bk_X7_layBest_44 k10 M_bestSet M_plan M_page p1 p2 p3))) else ((f_X7_serves M_plan M_page p3).bind (fun r6 => if r6 = 0 then (nm_ (p3 + (1 : Int32)) (fun t8 => k10 M_bestSet p2 t8)) else (bk_X7_layBest_44 k10 M_bestSet M_plan M_page p1 p2 p3)))))
set_option maxHeartbeats 4000000 in
set_option maxRecDepth 100000 in
theorem wk_X7_layBest_10 {p : Program} {l : Launch} {e : Env} {s : State} {m : MethodId} {args : Array Value} {below : List Frame} {meth : Method} {c : Code} {D : va_G} {cI cC cZ : ClassId} {A : Nat → Prop} {a_M a_M_text a_M_plan a_M_read a_M_readPage a_M_page a_M_trial a_M_book a_M_kept a_M_isKept a_M_seenPoint a_M_seenSum a_M_seenWas : Nat} {M_thrown : Int32} {M_textSize : Int32} {M_place : Int32} {M_doings : Int32} {M_seen : Int32} {M_seed : Int64} {M_bestSet : Int32} {M_text : Nat → Int32} {M_plan : Nat → Int32} {M_read : Nat → Int32} {M_readPage : Nat → Int32} {M_page : Nat → Int32} {M_trial : Nat → Int32} {M_book : Nat → Int32} {M_kept : Nat → Int32} {M_isKept : Nat → Int32} {M_seenPoint : Nat → Int32} {M_seenSum : Nat → Int32} {M_seenWas : Nat → Int32} {p1 : Int32} {p2 : Int32} {p3 : Int32} {k10 : Int32 → Int32 → Int32 → Option (Int32)} {u_M_bestSet : Int32} (C0 : kC p s m args meth c D (kTY cI cC cZ) cX7_layBest none 5 RX7 A) (hk10 : ∀ (M_bestSet_k : Int32) (p2_k : Int32) (p3_k : Int32), k10 M_bestSet_k p2_k p3_k = some u_M_bestSet → ∀ (H : Heap) (locs : List Loc), va_P D vwCl (WD16 cI cC cZ a_M a_M_text a_M_plan a_M_read a_M_readPage a_M_page a_M_trial a_M_book a_M_kept a_M_isKept a_M_seenPoint a_M_seenSum a_M_seenWas M_thrown M_textSize M_place M_doings M_seen M_seed M_bestSet_k M_text M_plan M_read M_readPage M_page M_trial M_book M_kept M_isKept M_seenPoint M_seenSum M_seenWas) H → va_D A (WD16 cI cC cZ a_M a_M_text a_M_plan a_M_read a_M_readPage a_M_page a_M_trial a_M_book a_M_kept a_M_isKept a_M_seenPoint a_M_seenSum a_M_seenWas M_thrown M_textSize M_place M_doings M_seen M_seed M_bestSet_k M_text M_plan M_read M_readPage M_page M_trial M_book M_kept M_isKept M_seenPoint M_seenSum M_seenWas) → va_S A s.heap H locs → ∀ ls : Array Slot, lv_has ls 5 [(0, .ref a_M), (1, .int p1), (2, .int p2_k), (3, .int p3_k)] → W p l e rm_X7_layBest s m args below meth c H locs 0 0 (MQ below (kQV D (kTY cI cC cZ) A (WD16 cI cC cZ a_M a_M_text a_M_plan a_M_read a_M_readPage a_M_page a_M_trial a_M_book a_M_kept a_M_isKept a_M_seenPoint a_M_seenSum a_M_seenWas M_thrown M_textSize M_place M_doings M_seen M_seed u_M_bestSet M_text M_plan M_read M_readPage M_page M_trial M_book M_kept M_isKept M_seenPoint M_seenSum M_seenWas)) args s 0 0 A) (F0 m 10 ls [])) (h : bk_X7_layBest_10 k10 M_plan M_page p1 M_bestSet p2 p3 = some u_M_bestSet) {H : Heap} {locs : List Loc} (hP : va_P D vwCl (WD16 cI cC cZ a_M a_M_text a_M_plan a_M_read a_M_readPage a_M_page a_M_trial a_M_book a_M_kept a_M_isKept a_M_seenPoint a_M_seenSum a_M_seenWas M_thrown M_textSize M_place M_doings M_seen M_seed M_bestSet M_text M_plan M_read M_readPage M_page M_trial M_book M_kept M_isKept M_seenPoint M_seenSum M_seenWas) H) (hD : va_D A (WD16 cI cC cZ a_M a_M_text a_M_plan a_M_read a_M_readPage a_M_page a_M_trial a_M_book a_M_kept a_M_isKept a_M_seenPoint a_M_seenSum a_M_seenWas M_thrown M_textSize M_place M_doings M_seen M_seed M_bestSet M_text M_plan M_read M_readPage M_page M_trial M_book M_kept M_isKept M_seenPoint M_seenSum M_seenWas)) (hS : va_S A s.heap H locs) {ls : Array Slot} (hl : lv_has ls 5 [(0, .ref a_M), (1, .int p1), (2, .int p2), (3, .int p3)]) : W p l e rm_X7_layBest s m args below meth c H locs 0 0 (MQ below (kQV D (kTY cI cC cZ) A (WD16 cI cC cZ a_M a_M_text a_M_plan a_M_read a_M_readPage a_M_page a_M_trial a_M_book a_M_kept a_M_isKept a_M_seenPoint a_M_seenSum a_M_seenWas M_thrown M_textSize M_place M_doings M_seen M_seed u_M_bestSet M_text M_plan M_read M_readPage M_page M_trial M_book M_kept M_isKept M_seenPoint M_seenSum M_seenWas)) args s 0 0 A) (F0 m 10 ls []) := by
  obtain ⟨hx, hb, hr, hml, hown, hts, hK, hN, hA, hlocks, hF⟩ := id C0
  unfold bk_X7_layBest_10 at h
  refine lv_iload_n hx hb dX7_layBest_10 rfl (lv_at hl 3 rfl) ?_
  refine lv_iconst (v := (1 : Int32)) hx hb dX7_layBest_11 (by decide) ?_
  refine lv_aload_n hx hb dX7_layBest_12 rfl (lv_at hl 0 rfl) ?_
  obtain ⟨r2, hc1, h⟩ := oc_bind h
  refine kro_i (wc := (WD16 cI cC cZ a_M a_M_text a_M_plan a_M_read a_M_readPage a_M_page a_M_trial a_M_book a_M_kept a_M_isKept a_M_seenPoint a_M_seenSum a_M_seenWas M_thrown M_textSize M_place M_doings M_seen M_seed M_bestSet M_text M_plan M_read M_readPage M_page M_trial M_book M_kept M_isKept M_seenPoint M_seenSum M_seenWas)) C0 hP hD hS [0, 1, 2, 3, 4, 5, 6, 7, 8, 9, 10, 11, 12] rfl (kV (n := 0) (As := []) (rest := [.int (1 : Int32), .int p3]) (wc := (WD16 cI cC cZ a_M a_M_text a_M_plan a_M_read a_M_readPage a_M_page a_M_trial a_M_book a_M_kept a_M_isKept a_M_seenPoint a_M_seenSum a_M_seenWas M_thrown M_textSize M_place M_doings M_seen M_seed M_bestSet M_text M_plan M_read M_readPage M_page M_trial M_book M_kept M_isKept M_seenPoint M_seenSum M_seenWas)) (C := RX7) C0 hP hD hS [0, 1, 2, 3, 4, 5, 6, 7, 8, 9, 10, 11, 12] rfl (by decide) (c_X7_spots l D cI cC cZ a_M a_M_text a_M_plan a_M_read a_M_readPage a_M_page a_M_trial a_M_book a_M_kept a_M_isKept a_M_seenPoint a_M_seenSum a_M_seenWas H.size M_thrown M_textSize M_place M_doings M_seen M_seed M_bestSet M_text M_plan M_read M_readPage M_page M_trial M_book M_kept M_isKept M_seenPoint M_seenSum M_seenWas  r2 hc1) kw_280 kw_277 kw_278 kw_279 kw_5 (by decide +kernel) (by decide) rfl rfl rfl hl.1 rfl (Nat.le_of_ble_eq_true rfl) ⟨Nat.zero_le _, Nat.zero_le _⟩ dX7_layBest_13) (fun H locs hP hS => ?_)
  refine lv_ishl hx hb dX7_layBest_16 ?_
  refine lv_icmp_ge (tgt := 101) hx hb dX7_layBest_17 (by decide) (fun c3 => ?_) (fun c3 => ?_)
  · have h := oc_t c3 h
    cases h
    exact kret_v C0 hP hD hS dX7_layBest_101
  · have h := oc_f c3 h
    refine lv_iload_n hx hb dX7_layBest_20 rfl (lv_at hl 1 rfl) ?_
    refine lv_iconst (v := (2 : Int32)) hx hb dX7_layBest_21 (by decide) ?_
    refine lv_icmp_ne (tgt := 36) hx hb dX7_layBest_22 (by decide) (fun c4 => ?_) (fun c4 => ?_)
    · have h := oc_f c4 h
      refine lv_aload_n hx hb dX7_layBest_36 rfl (lv_at hl 0 rfl) ?_
      refine lv_iload_n hx hb dX7_layBest_37 rfl (lv_at hl 3 rfl) ?_
      obtain ⟨r6, hc5, h⟩ := oc_bind h
      refine kro_i (wc := (WD16 cI cC cZ a_M a_M_text a_M_plan a_M_read a_M_readPage a_M_page a_M_trial a_M_book a_M_kept a_M_isKept a_M_seenPoint a_M_seenSum a_M_seenWas M_thrown M_textSize M_place M_doings M_seen M_seed M_bestSet M_text M_plan M_read M_readPage M_page M_trial M_book M_kept M_isKept M_seenPoint M_seenSum M_seenWas)) C0 hP hD hS [0, 1, 2, 3, 4, 5, 6, 7, 8, 9, 10, 11, 12] rfl (kV (n := 1) (As := [.int p3]) (rest := []) (wc := (WD16 cI cC cZ a_M a_M_text a_M_plan a_M_read a_M_readPage a_M_page a_M_trial a_M_book a_M_kept a_M_isKept a_M_seenPoint a_M_seenSum a_M_seenWas M_thrown M_textSize M_place M_doings M_seen M_seed M_bestSet M_text M_plan M_read M_readPage M_page M_trial M_book M_kept M_isKept M_seenPoint M_seenSum M_seenWas)) (C := RX7) C0 hP hD hS [0, 1, 2, 3, 4, 5, 6, 7, 8, 9, 10, 11, 12] rfl (by decide) (c_X7_serves l D cI cC cZ a_M a_M_text a_M_plan a_M_read a_M_readPage a_M_page a_M_trial a_M_book a_M_kept a_M_isKept a_M_seenPoint a_M_seenSum a_M_seenWas H.size M_thrown M_textSize M_place M_doings M_seen M_seed M_bestSet M_text M_plan M_read M_readPage M_page M_trial M_book M_kept M_isKept M_seenPoint M_seenSum M_seenWas p3 r6 hc5) kw_549 kw_546 kw_547 kw_548 kw_5 (by decide +kernel) (by decide) rfl rfl rfl hl.1 rfl (Nat.le_of_ble_eq_true rfl) ⟨Nat.zero_le _, Nat.zero_le _⟩ dX7_layBest_38) (fun H locs hP hS => ?_)
      refine lv_if_eq (tgt := 95) hx hb dX7_layBest_41 (by decide) (fun c7 => ?_) (fun c7 => ?_)
      · have h := oc_t c7 h
        obtain ⟨t8, e_t8⟩ : ∃ y : Int32, y = p3 + (1 : Int32) := ⟨_, rfl⟩
        have h := oc_nm e_t8 h
        refine lv_iinc (v := t8) (lv' := [(3, .int t8), (0, .ref a_M), (1, .int p1), (2, .int p2)]) hx hb dX7_layBest_95 hl (k := 3) rfl (by rw [e_t8]; rfl) (by decide) rfl (fun ls hl => ?_)
        refine lv_goto (tgt := 10) hx hb dX7_layBest_98 (by decide) ?_
        exact hk10 _ _ _ h _ _ hP hD hS _ (lv_sub hl [1, 2, 3, 0] rfl)
      · have h := oc_f c7 h
        exact wk_X7_layBest_44 C0 hk10 h hP hD hS (lv_sub hl [0, 1, 2, 3] rfl)
    · have h := oc_t c4 h
      refine lv_aload_n hx hb dX7_layBest_25 rfl (lv_at hl 0 rfl) ?_
      refine lv_iload_n hx hb dX7_layBest_26 rfl (lv_at hl 3 rfl) ?_
      obtain ⟨r10, hc9, h⟩ := oc_bind h
      refine kro_i (wc := (WD16 cI cC cZ a_M a_M_text a_M_plan a_M_read a_M_readPage a_M_page a_M_trial a_M_book a_M_kept a_M_isKept a_M_seenPoint a_M_seenSum a_M_seenWas M_thrown M_textSize M_place M_doings M_seen M_seed M_bestSet M_text M_plan M_read M_readPage M_page M_trial M_book M_kept M_isKept M_seenPoint M_seenSum M_seenWas)) C0 hP hD hS [0, 1, 2, 3, 4, 5, 6, 7, 8, 9, 10, 11, 12] rfl (kV (n := 1) (As := [.int p3]) (rest := []) (wc := (WD16 cI cC cZ a_M a_M_text a_M_plan a_M_read a_M_readPage a_M_page a_M_trial a_M_book a_M_kept a_M_isKept a_M_seenPoint a_M_seenSum a_M_seenWas M_thrown M_textSize M_place M_doings M_seen M_seed M_bestSet M_text M_plan M_read M_readPage M_page M_trial M_book M_kept M_isKept M_seenPoint M_seenSum M_seenWas)) (C := RX7) C0 hP hD hS [0, 1, 2, 3, 4, 5, 6, 7, 8, 9, 10, 11, 12] rfl (by decide) (c_X7_isSafe l D cI cC cZ a_M a_M_text a_M_plan a_M_read a_M_readPage a_M_page a_M_trial a_M_book a_M_kept a_M_isKept a_M_seenPoint a_M_seenSum a_M_seenWas H.size M_thrown M_textSize M_place M_doings M_seen M_seed M_bestSet M_text M_plan M_read M_readPage M_page M_trial M_book M_kept M_isKept M_seenPoint M_seenSum M_seenWas p3 r10 hc9) kw_545 kw_542 kw_543 kw_544 kw_5 (by decide +kernel) (by decide) rfl rfl rfl hl.1 rfl (Nat.le_of_ble_eq_true rfl) ⟨Nat.zero_le _, Nat.zero_le _⟩ dX7_layBest_27) (fun H locs hP hS => ?_)
      refine lv_if_eq (tgt := 95) hx hb dX7_layBest_30 (by decide) (fun c11 => ?_) (fun c11 => ?_)
      · have h := oc_t c11 h
        obtain ⟨t12, e_t12⟩ : ∃ y : Int32, y = p3 + (1 : Int32) := ⟨_, rfl⟩
        have h := oc_nm e_t12 h
        refine lv_iinc (v := t12) (lv' := [(3, .int t12), (0, .ref a_M), (1, .int p1), (2, .int p2)]) hx hb dX7_layBest_95 hl (k := 3) rfl (by rw [e_t12]; rfl) (by decide) rfl (fun ls hl => ?_)
        refine lv_goto (tgt := 10) hx hb dX7_layBest_98 (by decide) ?_
        exact hk10 _ _ _ h _ _ hP hD hS _ (lv_sub hl [1, 2, 3, 0] rfl)
      · have h := oc_f c11 h
        refine lv_goto (tgt := 44) hx hb dX7_layBest_33 (by decide) ?_
        exact wk_X7_layBest_44 C0 hk10 h hP hD hS (lv_sub hl [0, 1, 2, 3] rfl)
noncomputable def lp_X7_layBest_10  (M_plan : Nat → Int32) (M_page : Nat → Int32) (p1 : Int32) (n : Nat) : Int32 → Int32 → Int32 → Option (Int32) := Nat.rec (motive := fun _ => Int32 → Int32 → Int32 → Option (Int32)) (fun _ _ _ => none) (fun _ ih => bk_X7_layBest_10  ih M_plan M_page p1) n
set_option maxHeartbeats 4000000 in
set_option maxRecDepth 100000 in
theorem wl_X7_layBest_10 {p : Program} {l : Launch} {e : Env} {s : State} {m : MethodId} {args : Array Value} {below : List Frame} {meth : Method} {c : Code} {D : va_G} {cI cC cZ : ClassId} {A : Nat → Prop} {a_M a_M_text a_M_plan a_M_read a_M_readPage a_M_page a_M_trial a_M_book a_M_kept a_M_isKept a_M_seenPoint a_M_seenSum a_M_seenWas : Nat} {M_thrown : Int32} {M_textSize : Int32} {M_place : Int32} {M_doings : Int32} {M_seen : Int32} {M_seed : Int64} {M_text : Nat → Int32} {M_plan : Nat → Int32} {M_read : Nat → Int32} {M_readPage : Nat → Int32} {M_page : Nat → Int32} {M_trial : Nat → Int32} {M_book : Nat → Int32} {M_kept : Nat → Int32} {M_isKept : Nat → Int32} {M_seenPoint : Nat → Int32} {M_seenSum : Nat → Int32} {M_seenWas : Nat → Int32} {p1 : Int32}  {u_M_bestSet : Int32} (C0 : kC p s m args meth c D (kTY cI cC cZ) cX7_layBest none 5 RX7 A)  : ∀ (n : Nat) (M_bestSet : Int32) (p2 : Int32) (p3 : Int32), lp_X7_layBest_10  M_plan M_page p1 n M_bestSet p2 p3 = some u_M_bestSet → ∀ (H : Heap) (locs : List Loc), va_P D vwCl (WD16 cI cC cZ a_M a_M_text a_M_plan a_M_read a_M_readPage a_M_page a_M_trial a_M_book a_M_kept a_M_isKept a_M_seenPoint a_M_seenSum a_M_seenWas M_thrown M_textSize M_place M_doings M_seen M_seed M_bestSet M_text M_plan M_read M_readPage M_page M_trial M_book M_kept M_isKept M_seenPoint M_seenSum M_seenWas) H → va_D A (WD16 cI cC cZ a_M a_M_text a_M_plan a_M_read a_M_readPage a_M_page a_M_trial a_M_book a_M_kept a_M_isKept a_M_seenPoint a_M_seenSum a_M_seenWas M_thrown M_textSize M_place M_doings M_seen M_seed M_bestSet M_text M_plan M_read M_readPage M_page M_trial M_book M_kept M_isKept M_seenPoint M_seenSum M_seenWas) → va_S A s.heap H locs → ∀ ls : Array Slot, lv_has ls 5 [(0, .ref a_M), (1, .int p1), (2, .int p2), (3, .int p3)] → W p l e rm_X7_layBest s m args below meth c H locs 0 0 (MQ below (kQV D (kTY cI cC cZ) A (WD16 cI cC cZ a_M a_M_text a_M_plan a_M_read a_M_readPage a_M_page a_M_trial a_M_book a_M_kept a_M_isKept a_M_seenPoint a_M_seenSum a_M_seenWas M_thrown M_textSize M_place M_doings M_seen M_seed u_M_bestSet M_text M_plan M_read M_readPage M_page M_trial M_book M_kept M_isKept M_seenPoint M_seenSum M_seenWas)) args s 0 0 A) (F0 m 10 ls []) := by
  intro n
  induction n with
  | zero => intro M_bestSet p2 p3 h; cases (show (none : Option (Int32)) = some _ from h)
  | succ n ih =>
    intro M_bestSet p2 p3 h H locs hP hD hS ls hl
    exact wk_X7_layBest_10 C0  (fun M_bestSet p2 p3 h H locs hP hD hS ls hl => ih M_bestSet p2 p3 h H locs hP hD hS ls hl) (show bk_X7_layBest_10  (lp_X7_layBest_10  M_plan M_page p1 n) M_plan M_page p1 M_bestSet p2 p3 = some _ from h) hP hD hS hl
noncomputable def f_X7_layBest (M_bestSet : Int32) (M_plan : Nat → Int32) (M_page : Nat → Int32) (p1 : Int32) : Option (Int32) := lp_X7_layBest_10  M_plan M_page p1 1000 (-9 : Int32) (0 : Int32) (0 : Int32)
set_option maxHeartbeats 4000000 in
set_option maxRecDepth 100000 in
theorem c_X7_layBest (l : Launch) (D : va_G) (cI cC cZ : ClassId) (a_M a_M_text a_M_plan a_M_read a_M_readPage a_M_page a_M_trial a_M_book a_M_kept a_M_isKept a_M_seenPoint a_M_seenSum a_M_seenWas : Nat) (sz : Nat) (M_thrown : Int32) (M_textSize : Int32) (M_place : Int32) (M_doings : Int32) (M_seen : Int32) (M_seed : Int64) (M_bestSet : Int32) (M_text : Nat → Int32) (M_plan : Nat → Int32) (M_read : Nat → Int32) (M_readPage : Nat → Int32) (M_page : Nat → Int32) (M_trial : Nat → Int32) (M_book : Nat → Int32) (M_kept : Nat → Int32) (M_isKept : Nat → Int32) (M_seenPoint : Nat → Int32) (M_seenSum : Nat → Int32) (M_seenWas : Nat → Int32) (p1 : Int32) (u_M_bestSet : Int32) (hf : f_X7_layBest M_bestSet M_plan M_page p1 = some u_M_bestSet) : kMet l yX7_layBest cX7_layBest 5 none rm_X7_layBest D (kTY cI cC cZ) [.ref a_M, .int p1] (WD16 cI cC cZ a_M a_M_text a_M_plan a_M_read a_M_readPage a_M_page a_M_trial a_M_book a_M_kept a_M_isKept a_M_seenPoint a_M_seenSum a_M_seenWas M_thrown M_textSize M_place M_doings M_seen M_seed M_bestSet M_text M_plan M_read M_readPage M_page M_trial M_book M_kept M_isKept M_seenPoint M_seenSum M_seenWas) sz (kQV D (kTY cI cC cZ) (va_A (WD16 cI cC cZ a_M a_M_text a_M_plan a_M_read a_M_readPage a_M_page a_M_trial a_M_book a_M_kept a_M_isKept a_M_seenPoint a_M_seenSum a_M_seenWas M_thrown M_textSize M_place M_doings M_seen M_seed M_bestSet M_text M_plan M_read M_readPage M_page M_trial M_book M_kept M_isKept M_seenPoint M_seenSum M_seenWas) sz) (WD16 cI cC cZ a_M a_M_text a_M_plan a_M_read a_M_readPage a_M_page a_M_trial a_M_book a_M_kept a_M_isKept a_M_seenPoint a_M_seenSum a_M_seenWas M_thrown M_textSize M_place M_doings M_seen M_seed u_M_bestSet M_text M_plan M_read M_readPage M_page M_trial M_book M_kept M_isKept M_seenPoint M_seenSum M_seenWas)) := by
  refine kEnter (lv := [(0, .ref a_M), (1, .int p1)]) (own := RX7) (by decide) rfl (Nat.le_of_ble_eq_true rfl) rfl ?_
  intro p e s m below meth c hsz C0 hP hD hS ls hl
  generalize (va_A (WD16 cI cC cZ a_M a_M_text a_M_plan a_M_read a_M_readPage a_M_page a_M_trial a_M_book a_M_kept a_M_isKept a_M_seenPoint a_M_seenSum a_M_seenWas M_thrown M_textSize M_place M_doings M_seen M_seed M_bestSet M_text M_plan M_read M_readPage M_page M_trial M_book M_kept M_isKept M_seenPoint M_seenSum M_seenWas) sz) = A at C0 hD hS ⊢
  clear hsz hS
  obtain ⟨H, hHs⟩ : ∃ H : Heap, H = s.heap := ⟨_, rfl⟩
  have hS : va_S A s.heap H [] := by rw [hHs]; exact va_S.rf
  rw [← hHs] at hP ⊢
  obtain ⟨hx, hb, hr, hml, hown, hts, hK, hN, hA, hlocks, hF⟩ := id C0
  have h := hf
  unfold f_X7_layBest at h
  refine lv_aload_n hx hb dX7_layBest_0 rfl (lv_at hl 0 rfl) ?_
  refine lv_bipush (v := (-9 : Int32)) hx hb dX7_layBest_1 (by decide) ?_
  refine va_put (D := D) (ci := 7) (v := .int (-9 : Int32)) (ty := .int) (C := RX7) (T := TX7) (N := 19) hx hb hts inlX7 tyX7 tyX7_ok nmX7 hown hK hP hD hS 0 rfl rfl 18 (by decide) (hts _ kw_96) (fun _ h9 => h9) rfl (by decide +kernel) rfl rfl (Nat.le_of_ble_eq_true rfl) dX7_layBest_3 (fun H locs hP hD hS => ?_)
  have hP : va_P D vwCl (WD16 cI cC cZ a_M a_M_text a_M_plan a_M_read a_M_readPage a_M_page a_M_trial a_M_book a_M_kept a_M_isKept a_M_seenPoint a_M_seenSum a_M_seenWas M_thrown M_textSize M_place M_doings M_seen M_seed (-9 : Int32) M_text M_plan M_read M_readPage M_page M_trial M_book M_kept M_isKept M_seenPoint M_seenSum M_seenWas) H := hP
  have hD : va_D A (WD16 cI cC cZ a_M a_M_text a_M_plan a_M_read a_M_readPage a_M_page a_M_trial a_M_book a_M_kept a_M_isKept a_M_seenPoint a_M_seenSum a_M_seenWas M_thrown M_textSize M_place M_doings M_seen M_seed (-9 : Int32) M_text M_plan M_read M_readPage M_page M_trial M_book M_kept M_isKept M_seenPoint M_seenSum M_seenWas) := hD
  refine lv_iconst (v := (0 : Int32)) hx hb dX7_layBest_6 (by decide) ?_
  refine lv_istore_n (lv' := [(2, .int (0 : Int32)), (0, .ref a_M), (1, .int p1)]) hx hb dX7_layBest_7 rfl hl (by decide) rfl (fun ls hl => ?_)
  refine lv_iconst (v := (0 : Int32)) hx hb dX7_layBest_8 (by decide) ?_
  refine lv_istore_n (lv' := [(3, .int (0 : Int32)), (2, .int (0 : Int32)), (0, .ref a_M), (1, .int p1)]) hx hb dX7_layBest_9 rfl hl (by decide) rfl (fun ls hl => ?_)
  exact wl_X7_layBest_10 C0  _ _ _ _ h _ _ hP hD hS _ (lv_sub hl [2, 3, 1, 0] rfl)
abbrev rm_X7_best : Room := { frames := 11, cells := 0, slots := 0, locals := 274 }
noncomputable def f_X7_best (M_thrown : Int32) (M_bestSet : Int32) (M_plan : Nat → Int32) (M_page : Nat → Int32) (p1 : Int32) (p2 : Int32) : Option (Int32 × Int32 × Int32) := (f_X7_in (Int32.toInt64 p1) (0 : Int64) (2 : Int64)).bind (fun r2 => if r2 = 0 then (some ((-2 : Int32), (0 : Int32), M_bestSet)) else ((f_X7_in (Int32.toInt64 p2) (0 : Int64) (2 : Int64)).bind (fun r5 => if r5 = 0 then (some ((-2 : Int32), (0 : Int32), M_bestSet)) else ((f_X7_layBest M_bestSet M_plan M_page p1).bind (fun u8 => if u8 = (-9 : Int32) then (some ((-9 : Int32), (0 : Int32), u8)) else (if p2 = 0 then (some (u8, (0 : Int32), u8)) else (if p2 = (1 : Int32) then ((f_X7_priceOf M_plan u8).bind (fun r15 => some (r15, (0 : Int32), u8))) else ((f_X7_ones u8).bind (fun r13 => some (r13, (0 : Int32), u8))))))))))
set_option maxHeartbeats 4000000 in
set_option maxRecDepth 100000 in
theorem c_X7_best (l : Launch) (D : va_G) (cI cC cZ : ClassId) (a_M a_M_text a_M_plan a_M_read a_M_readPage a_M_page a_M_trial a_M_book a_M_kept a_M_isKept a_M_seenPoint a_M_seenSum a_M_seenWas : Nat) (sz : Nat) (M_thrown : Int32) (M_textSize : Int32) (M_place : Int32) (M_doings : Int32) (M_seen : Int32) (M_seed : Int64) (M_bestSet : Int32) (M_text : Nat → Int32) (M_plan : Nat → Int32) (M_read : Nat → Int32) (M_readPage : Nat → Int32) (M_page : Nat → Int32) (M_trial : Nat → Int32) (M_book : Nat → Int32) (M_kept : Nat → Int32) (M_isKept : Nat → Int32) (M_seenPoint : Nat → Int32) (M_seenSum : Nat → Int32) (M_seenWas : Nat → Int32) (p1 : Int32) (p2 : Int32) (rr : Int32) (u_M_thrown : Int32) (u_M_bestSet : Int32) (hf : f_X7_best M_thrown M_bestSet M_plan M_page p1 p2 = some (rr, u_M_thrown, u_M_bestSet)) : kMet l yX7_best cX7_best 3 (some .int) rm_X7_best D (kTY cI cC cZ) [.ref a_M, .int p1, .int p2] (WD16 cI cC cZ a_M a_M_text a_M_plan a_M_read a_M_readPage a_M_page a_M_trial a_M_book a_M_kept a_M_isKept a_M_seenPoint a_M_seenSum a_M_seenWas M_thrown M_textSize M_place M_doings M_seen M_seed M_bestSet M_text M_plan M_read M_readPage M_page M_trial M_book M_kept M_isKept M_seenPoint M_seenSum M_seenWas) sz (kQI D (kTY cI cC cZ) (va_A (WD16 cI cC cZ a_M a_M_text a_M_plan a_M_read a_M_readPage a_M_page a_M_trial a_M_book a_M_kept a_M_isKept a_M_seenPoint a_M_seenSum a_M_seenWas M_thrown M_textSize M_place M_doings M_seen M_seed M_bestSet M_text M_plan M_read M_readPage M_page M_trial M_book M_kept M_isKept M_seenPoint M_seenSum M_seenWas) sz) rr (WD16 cI cC cZ a_M a_M_text a_M_plan a_M_read a_M_readPage a_M_page a_M_trial a_M_book a_M_kept a_M_isKept a_M_seenPoint a_M_seenSum a_M_seenWas u_M_thrown M_textSize M_place M_doings M_seen M_seed u_M_bestSet M_text M_plan M_read M_readPage M_page M_trial M_book M_kept M_isKept M_seenPoint M_seenSum M_seenWas)) := by
  refine kEnter (lv := [(0, .ref a_M), (1, .int p1), (2, .int p2)]) (own := RX7) (by decide) rfl (Nat.le_of_ble_eq_true rfl) rfl ?_
  intro p e s m below meth c hsz C0 hP hD hS ls hl
  generalize (va_A (WD16 cI cC cZ a_M a_M_text a_M_plan a_M_read a_M_readPage a_M_page a_M_trial a_M_book a_M_kept a_M_isKept a_M_seenPoint a_M_seenSum a_M_seenWas M_thrown M_textSize M_place M_doings M_seen M_seed M_bestSet M_text M_plan M_read M_readPage M_page M_trial M_book M_kept M_isKept M_seenPoint M_seenSum M_seenWas) sz) = A at C0 hD hS ⊢
  clear hsz hS
  obtain ⟨H, hHs⟩ : ∃ H : Heap, H = s.heap := ⟨_, rfl⟩
  have hS : va_S A s.heap H [] := by rw [hHs]; exact va_S.rf
  rw [← hHs] at hP ⊢
  obtain ⟨hx, hb, hr, hml, hown, hts, hK, hN, hA, hlocks, hF⟩ := id C0
  have h := hf
  unfold f_X7_best at h
  refine lv_aload_n hx hb dX7_best_0 rfl (lv_at hl 0 rfl) ?_
  refine lv_iconst (v := (0 : Int32)) hx hb dX7_best_1 (by decide) ?_
  refine va_put (D := D) (ci := 7) (v := .int (0 : Int32)) (ty := .int) (C := RX7) (T := TX7) (N := 19) hx hb hts inlX7 tyX7 tyX7_ok nmX7 hown hK hP hD hS 0 rfl rfl 0 (by decide) (hts _ kw_109) (fun _ h9 => h9) rfl (by decide +kernel) rfl rfl (Nat.le_of_ble_eq_true rfl) dX7_best_2 (fun H locs hP hD hS => ?_)
  have hP : va_P D vwCl (WD16 cI cC cZ a_M a_M_text a_M_plan a_M_read a_M_readPage a_M_page a_M_trial a_M_book a_M_kept a_M_isKept a_M_seenPoint a_M_seenSum a_M_seenWas (0 : Int32) M_textSize M_place M_doings M_seen M_seed M_bestSet M_text M_plan M_read M_readPage M_page M_trial M_book M_kept M_isKept M_seenPoint M_seenSum M_seenWas) H := hP
  have hD : va_D A (WD16 cI cC cZ a_M a_M_text a_M_plan a_M_read a_M_readPage a_M_page a_M_trial a_M_book a_M_kept a_M_isKept a_M_seenPoint a_M_seenSum a_M_seenWas (0 : Int32) M_textSize M_place M_doings M_seen M_seed M_bestSet M_text M_plan M_read M_readPage M_page M_trial M_book M_kept M_isKept M_seenPoint M_seenSum M_seenWas) := hD
  refine lv_iload_n hx hb dX7_best_5 rfl (lv_at hl 1 rfl) ?_
  refine lv_i2l hx hb dX7_best_6 rfl ?_
  refine lv_lconst (v := (0 : Int64)) hx hb dX7_best_7 (by decide) ?_
  refine lv_ldc2 (v := (2 : Int64)) hx hb hown (hts _ kw_537) dX7_best_8 ?_
  obtain ⟨r2, hc1, h⟩ := oc_bind h
  refine kro_i (wc := (WD0 cI cC cZ)) C0 hP hD hS [] rfl (kS (n := 3) (As := [.long (Int32.toInt64 p1), .long (0 : Int64), .long (2 : Int64)]) (rest := []) (wc := (WD0 cI cC cZ)) C0 hP hD hS [] rfl (by decide) (c_X7_in l D cI cC cZ  H.size  (Int32.toInt64 p1) (0 : Int64) (2 : Int64) r2 hc1) kw_114 kw_112 kw_113 kw_5 (by decide +kernel) (by decide) rfl hl.1 rfl (Nat.le_of_ble_eq_true rfl) ⟨Nat.zero_le _, Nat.zero_le _⟩ dX7_best_11) (fun H locs hP hS => ?_)
  refine lv_if_eq (tgt := 29) hx hb dX7_best_14 (by decide) (fun c3 => ?_) (fun c3 => ?_)
  · have h := oc_t c3 h
    refine lv_bipush (v := (-2 : Int32)) hx hb dX7_best_29 (by decide) ?_
    cases h
    exact kret_i C0 hP hD hS rfl dX7_best_31
  · have h := oc_f c3 h
    refine lv_iload_n hx hb dX7_best_17 rfl (lv_at hl 2 rfl) ?_
    refine lv_i2l hx hb dX7_best_18 rfl ?_
    refine lv_lconst (v := (0 : Int64)) hx hb dX7_best_19 (by decide) ?_
    refine lv_ldc2 (v := (2 : Int64)) hx hb hown (hts _ kw_537) dX7_best_20 ?_
    obtain ⟨r5, hc4, h⟩ := oc_bind h
    refine kro_i (wc := (WD0 cI cC cZ)) C0 hP hD hS [] rfl (kS (n := 3) (As := [.long (Int32.toInt64 p2), .long (0 : Int64), .long (2 : Int64)]) (rest := []) (wc := (WD0 cI cC cZ)) C0 hP hD hS [] rfl (by decide) (c_X7_in l D cI cC cZ  H.size  (Int32.toInt64 p2) (0 : Int64) (2 : Int64) r5 hc4) kw_114 kw_112 kw_113 kw_5 (by decide +kernel) (by decide) rfl hl.1 rfl (Nat.le_of_ble_eq_true rfl) ⟨Nat.zero_le _, Nat.zero_le _⟩ dX7_best_23) (fun H locs hP hS => ?_)
    refine lv_if_ne (tgt := 32) hx hb dX7_best_26 (by decide) (fun c6 => ?_) (fun c6 => ?_)
    · have h := oc_f c6 h
      refine lv_aload_n hx hb dX7_best_32 rfl (lv_at hl 0 rfl) ?_
      refine lv_iload_n hx hb dX7_best_33 rfl (lv_at hl 1 rfl) ?_
      obtain ⟨u8, hc7, h⟩ := oc_bind h
      refine kgo_v (wc := (WD16 cI cC cZ a_M a_M_text a_M_plan a_M_read a_M_readPage a_M_page a_M_trial a_M_book a_M_kept a_M_isKept a_M_seenPoint a_M_seenSum a_M_seenWas (0 : Int32) M_textSize M_place M_doings M_seen M_seed M_bestSet M_text M_plan M_read M_readPage M_page M_trial M_book M_kept M_isKept M_seenPoint M_seenSum M_seenWas)) (wc' := (WD16 cI cC cZ a_M a_M_text a_M_plan a_M_read a_M_readPage a_M_page a_M_trial a_M_book a_M_kept a_M_isKept a_M_seenPoint a_M_seenSum a_M_seenWas (0 : Int32) M_textSize M_place M_doings M_seen M_seed u8 M_text M_plan M_read M_readPage M_page M_trial M_book M_kept M_isKept M_seenPoint M_seenSum M_seenWas)) (ws' := (WD16 cI cC cZ a_M a_M_text a_M_plan a_M_read a_M_readPage a_M_page a_M_trial a_M_book a_M_kept a_M_isKept a_M_seenPoint a_M_seenSum a_M_seenWas (0 : Int32) M_textSize M_place M_doings M_seen M_seed u8 M_text M_plan M_read M_readPage M_page M_trial M_book M_kept M_isKept M_seenPoint M_seenSum M_seenWas)) C0 hP hD hS [0, 1, 2, 3, 4, 5, 6, 7, 8, 9, 10, 11, 12] [] [0, 1, 2, 3, 4, 5, 6, 7, 8, 9, 10, 11, 12] [] rfl rfl (by decide) (by decide) rfl (by decide) (kV (n := 1) (As := [.int p1]) (rest := []) (wc := (WD16 cI cC cZ a_M a_M_text a_M_plan a_M_read a_M_readPage a_M_page a_M_trial a_M_book a_M_kept a_M_isKept a_M_seenPoint a_M_seenSum a_M_seenWas (0 : Int32) M_textSize M_place M_doings M_seen M_seed M_bestSet M_text M_plan M_read M_readPage M_page M_trial M_book M_kept M_isKept M_seenPoint M_seenSum M_seenWas)) (C := RX7) C0 hP hD hS [0, 1, 2, 3, 4, 5, 6, 7, 8, 9, 10, 11, 12] rfl (by decide) (c_X7_layBest l D cI cC cZ a_M a_M_text a_M_plan a_M_read a_M_readPage a_M_page a_M_trial a_M_book a_M_kept a_M_isKept a_M_seenPoint a_M_seenSum a_M_seenWas H.size (0 : Int32) M_textSize M_place M_doings M_seen M_seed M_bestSet M_text M_plan M_read M_readPage M_page M_trial M_book M_kept M_isKept M_seenPoint M_seenSum M_seenWas p1 u8 hc7) kw_541 kw_538 kw_539 kw_540 kw_5 (by decide +kernel) (by decide) rfl rfl rfl hl.1 rfl (Nat.le_of_ble_eq_true rfl) ⟨Nat.zero_le _, Nat.zero_le _⟩ dX7_best_34) (fun H locs hP hD hS => ?_)
      refine lv_aload_n hx hb dX7_best_37 rfl (lv_at hl 0 rfl) ?_
      refine va_get (D := D) (ci := 7) (v := .int u8) (C := RX7) (T := TX7) (N := 19) hx hb hts inlX7 hown hK hP 0 rfl rfl 18 (by decide) (hts _ kw_96) (fun _ h9 => h9) rfl dX7_best_38 ?_
      refine lv_bipush (v := (-9 : Int32)) hx hb dX7_best_41 (by decide) ?_
      refine lv_icmp_ne (tgt := 51) hx hb dX7_best_43 (by decide) (fun c9 => ?_) (fun c9 => ?_)
      · have h := oc_f c9 h
        refine lv_iload_n hx hb dX7_best_51 rfl (lv_at hl 2 rfl) ?_
        refine lv_if_ne (tgt := 62) hx hb dX7_best_52 (by decide) (fun c10 => ?_) (fun c10 => ?_)
        · have h := oc_f c10 h
          refine lv_iload_n hx hb dX7_best_62 rfl (lv_at hl 2 rfl) ?_
          refine lv_iconst (v := (1 : Int32)) hx hb dX7_best_63 (by decide) ?_
          refine lv_icmp_ne (tgt := 78) hx hb dX7_best_64 (by decide) (fun c11 => ?_) (fun c11 => ?_)
          · have h := oc_f c11 h
            refine lv_aload_n hx hb dX7_best_78 rfl (lv_at hl 0 rfl) ?_
            refine va_get (D := D) (ci := 7) (v := .int u8) (C := RX7) (T := TX7) (N := 19) hx hb hts inlX7 hown hK hP 0 rfl rfl 18 (by decide) (hts _ kw_96) (fun _ h9 => h9) rfl dX7_best_79 ?_
            obtain ⟨r13, hc12, h⟩ := oc_bind h
            refine kro_i (wc := (WD0 cI cC cZ)) C0 hP hD hS [] rfl (kS (n := 1) (As := [.int u8]) (rest := []) (wc := (WD0 cI cC cZ)) C0 hP hD hS [] rfl (by decide) (c_X7_ones l D cI cC cZ  H.size  u8 r13 hc12) kw_464 kw_462 kw_463 kw_5 (by decide +kernel) (by decide) rfl hl.1 rfl (Nat.le_of_ble_eq_true rfl) ⟨Nat.zero_le _, Nat.zero_le _⟩ dX7_best_82) (fun H locs hP hS => ?_)
            cases h
            exact kret_i C0 hP hD hS rfl dX7_best_85
          · have h := oc_t c11 h
            refine lv_aload_n hx hb dX7_best_67 rfl (lv_at hl 0 rfl) ?_
            refine lv_aload_n hx hb dX7_best_68 rfl (lv_at hl 0 rfl) ?_
            refine va_get (D := D) (ci := 7) (v := .int u8) (C := RX7) (T := TX7) (N := 19) hx hb hts inlX7 hown hK hP 0 rfl rfl 18 (by decide) (hts _ kw_96) (fun _ h9 => h9) rfl dX7_best_69 ?_
            obtain ⟨r15, hc14, h⟩ := oc_bind h
            refine kro_i (wc := (WD16 cI cC cZ a_M a_M_text a_M_plan a_M_read a_M_readPage a_M_page a_M_trial a_M_book a_M_kept a_M_isKept a_M_seenPoint a_M_seenSum a_M_seenWas (0 : Int32) M_textSize M_place M_doings M_seen M_seed u8 M_text M_plan M_read M_readPage M_page M_trial M_book M_kept M_isKept M_seenPoint M_seenSum M_seenWas)) C0 hP hD hS [0, 1, 2, 3, 4, 5, 6, 7, 8, 9, 10, 11, 12] rfl (kV (n := 1) (As := [.int u8]) (rest := []) (wc := (WD16 cI cC cZ a_M a_M_text a_M_plan a_M_read a_M_readPage a_M_page a_M_trial a_M_book a_M_kept a_M_isKept a_M_seenPoint a_M_seenSum a_M_seenWas (0 : Int32) M_textSize M_place M_doings M_seen M_seed u8 M_text M_plan M_read M_readPage M_page M_trial M_book M_kept M_isKept M_seenPoint M_seenSum M_seenWas)) (C := RX7) C0 hP hD hS [0, 1, 2, 3, 4, 5, 6, 7, 8, 9, 10, 11, 12] rfl (by decide) (c_X7_priceOf l D cI cC cZ a_M a_M_text a_M_plan a_M_read a_M_readPage a_M_page a_M_trial a_M_book a_M_kept a_M_isKept a_M_seenPoint a_M_seenSum a_M_seenWas H.size (0 : Int32) M_textSize M_place M_doings M_seen M_seed u8 M_text M_plan M_read M_readPage M_page M_trial M_book M_kept M_isKept M_seenPoint M_seenSum M_seenWas u8 r15 hc14) kw_400 kw_397 kw_398 kw_399 kw_5 (by decide +kernel) (by decide) rfl rfl rfl hl.1 rfl (Nat.le_of_ble_eq_true rfl) ⟨Nat.zero_le _, Nat.zero_le _⟩ dX7_best_72) (fun H locs hP hS => ?_)
            refine lv_goto (tgt := 85) hx hb dX7_best_75 (by decide) ?_
            cases h
            exact kret_i C0 hP hD hS rfl dX7_best_85
        · have h := oc_t c10 h
          refine lv_aload_n hx hb dX7_best_55 rfl (lv_at hl 0 rfl) ?_
          refine va_get (D := D) (ci := 7) (v := .int u8) (C := RX7) (T := TX7) (N := 19) hx hb hts inlX7 hown hK hP 0 rfl rfl 18 (by decide) (hts _ kw_96) (fun _ h9 => h9) rfl dX7_best_56 ?_
          refine lv_goto (tgt := 85) hx hb dX7_best_59 (by decide) ?_
          cases h
          exact kret_i C0 hP hD hS rfl dX7_best_85
      · have h := oc_t c9 h
        refine lv_bipush (v := (-9 : Int32)) hx hb dX7_best_46 (by decide) ?_
        refine lv_goto (tgt := 85) hx hb dX7_best_48 (by decide) ?_
        cases h
        exact kret_i C0 hP hD hS rfl dX7_best_85
    · have h := oc_t c6 h
      refine lv_bipush (v := (-2 : Int32)) hx hb dX7_best_29 (by decide) ?_
      cases h
      exact kret_i C0 hP hD hS rfl dX7_best_31
abbrev rm_X7_worthBy : Room := { frames := 8, cells := 0, slots := 0, locals := 206 }
noncomputable def f_X7_worthBy (M_plan : Nat → Int32) (M_page : Nat → Int32) (p1 : Int32) (p2 : Int32) : Option (Int32) := (f_X7_servedBy_page M_plan M_page p1 p2).bind (fun r2 => (f_X7_ones r2).bind (fun r4 => (f_X7_sumsBy M_plan p1 p2).bind (fun r6 => some (((10000 : Int32) * r4) + r6))))
set_option maxHeartbeats 4000000 in
set_option maxRecDepth 100000 in
theorem c_X7_worthBy (l : Launch) (D : va_G) (cI cC cZ : ClassId) (a_M a_M_text a_M_plan a_M_read a_M_readPage a_M_page a_M_trial a_M_book a_M_kept a_M_isKept a_M_seenPoint a_M_seenSum a_M_seenWas : Nat) (sz : Nat) (M_thrown : Int32) (M_textSize : Int32) (M_place : Int32) (M_doings : Int32) (M_seen : Int32) (M_seed : Int64) (M_bestSet : Int32) (M_text : Nat → Int32) (M_plan : Nat → Int32) (M_read : Nat → Int32) (M_readPage : Nat → Int32) (M_page : Nat → Int32) (M_trial : Nat → Int32) (M_book : Nat → Int32) (M_kept : Nat → Int32) (M_isKept : Nat → Int32) (M_seenPoint : Nat → Int32) (M_seenSum : Nat → Int32) (M_seenWas : Nat → Int32) (p1 : Int32) (p2 : Int32) (rr : Int32) (hf : f_X7_worthBy M_plan M_page p1 p2 = some rr) : kMet l yX7_worthBy cX7_worthBy 3 (some .int) rm_X7_worthBy D (kTY cI cC cZ) [.ref a_M, .int p1, .int p2] (WD16 cI cC cZ a_M a_M_text a_M_plan a_M_read a_M_readPage a_M_page a_M_trial a_M_book a_M_kept a_M_isKept a_M_seenPoint a_M_seenSum a_M_seenWas M_thrown M_textSize M_place M_doings M_seen M_seed M_bestSet M_text M_plan M_read M_readPage M_page M_trial M_book M_kept M_isKept M_seenPoint M_seenSum M_seenWas) sz (kQI D (kTY cI cC cZ) (va_A (WD16 cI cC cZ a_M a_M_text a_M_plan a_M_read a_M_readPage a_M_page a_M_trial a_M_book a_M_kept a_M_isKept a_M_seenPoint a_M_seenSum a_M_seenWas M_thrown M_textSize M_place M_doings M_seen M_seed M_bestSet M_text M_plan M_read M_readPage M_page M_trial M_book M_kept M_isKept M_seenPoint M_seenSum M_seenWas) sz) rr (WD16 cI cC cZ a_M a_M_text a_M_plan a_M_read a_M_readPage a_M_page a_M_trial a_M_book a_M_kept a_M_isKept a_M_seenPoint a_M_seenSum a_M_seenWas M_thrown M_textSize M_place M_doings M_seen M_seed M_bestSet M_text M_plan M_read M_readPage M_page M_trial M_book M_kept M_isKept M_seenPoint M_seenSum M_seenWas)) := by
  refine kEnter (lv := [(0, .ref a_M), (1, .int p1), (2, .int p2)]) (own := RX7) (by decide) rfl (Nat.le_of_ble_eq_true rfl) rfl ?_
  intro p e s m below meth c hsz C0 hP hD hS ls hl
  generalize (va_A (WD16 cI cC cZ a_M a_M_text a_M_plan a_M_read a_M_readPage a_M_page a_M_trial a_M_book a_M_kept a_M_isKept a_M_seenPoint a_M_seenSum a_M_seenWas M_thrown M_textSize M_place M_doings M_seen M_seed M_bestSet M_text M_plan M_read M_readPage M_page M_trial M_book M_kept M_isKept M_seenPoint M_seenSum M_seenWas) sz) = A at C0 hD hS ⊢
  clear hsz hS
  obtain ⟨H, hHs⟩ : ∃ H : Heap, H = s.heap := ⟨_, rfl⟩
  have hS : va_S A s.heap H [] := by rw [hHs]; exact va_S.rf
  rw [← hHs] at hP ⊢
  obtain ⟨hx, hb, hr, hml, hown, hts, hK, hN, hA, hlocks, hF⟩ := id C0
  have h := hf
  unfold f_X7_worthBy at h
  refine lv_sipush (v := (10000 : Int32)) hx hb dX7_worthBy_0 (by decide) ?_
  refine lv_aload_n hx hb dX7_worthBy_3 rfl (lv_at hl 0 rfl) ?_
  refine lv_aload_n hx hb dX7_worthBy_4 rfl (lv_at hl 0 rfl) ?_
  refine va_get (D := D) (ci := 7) (v := .ref a_M_page) (C := RX7) (T := TX7) (N := 19) hx hb hts inlX7 hown hK hP 0 rfl rfl 7 (by decide) (hts _ kw_88) (fun _ h9 => h9) rfl dX7_worthBy_5 ?_
  refine lv_iload_n hx hb dX7_worthBy_8 rfl (lv_at hl 1 rfl) ?_
  refine lv_iload_n hx hb dX7_worthBy_9 rfl (lv_at hl 2 rfl) ?_
  obtain ⟨r2, hc1, h⟩ := oc_bind h
  refine kro_i (wc := (WD16 cI cC cZ a_M a_M_text a_M_plan a_M_read a_M_readPage a_M_page a_M_trial a_M_book a_M_kept a_M_isKept a_M_seenPoint a_M_seenSum a_M_seenWas M_thrown M_textSize M_place M_doings M_seen M_seed M_bestSet M_text M_plan M_read M_readPage M_page M_trial M_book M_kept M_isKept M_seenPoint M_seenSum M_seenWas)) C0 hP hD hS [0, 1, 2, 3, 4, 5, 6, 7, 8, 9, 10, 11, 12] rfl (kV (n := 3) (As := [.ref a_M_page, .int p1, .int p2]) (rest := [.int (10000 : Int32)]) (wc := (WD16 cI cC cZ a_M a_M_text a_M_plan a_M_read a_M_readPage a_M_page a_M_trial a_M_book a_M_kept a_M_isKept a_M_seenPoint a_M_seenSum a_M_seenWas M_thrown M_textSize M_place M_doings M_seen M_seed M_bestSet M_text M_plan M_read M_readPage M_page M_trial M_book M_kept M_isKept M_seenPoint M_seenSum M_seenWas)) (C := RX7) C0 hP hD hS [0, 1, 2, 3, 4, 5, 6, 7, 8, 9, 10, 11, 12] rfl (by decide) (c_X7_servedBy_page l D cI cC cZ a_M a_M_text a_M_plan a_M_read a_M_readPage a_M_page a_M_trial a_M_book a_M_kept a_M_isKept a_M_seenPoint a_M_seenSum a_M_seenWas H.size M_thrown M_textSize M_place M_doings M_seen M_seed M_bestSet M_text M_plan M_read M_readPage M_page M_trial M_book M_kept M_isKept M_seenPoint M_seenSum M_seenWas p1 p2 r2 hc1) kw_553 kw_550 kw_551 kw_552 kw_5 (by decide +kernel) (by decide) rfl rfl rfl hl.1 rfl (Nat.le_of_ble_eq_true rfl) ⟨Nat.zero_le _, Nat.zero_le _⟩ dX7_worthBy_10) (fun H locs hP hS => ?_)
  obtain ⟨r4, hc3, h⟩ := oc_bind h
  refine kro_i (wc := (WD0 cI cC cZ)) C0 hP hD hS [] rfl (kS (n := 1) (As := [.int r2]) (rest := [.int (10000 : Int32)]) (wc := (WD0 cI cC cZ)) C0 hP hD hS [] rfl (by decide) (c_X7_ones l D cI cC cZ  H.size  r2 r4 hc3) kw_464 kw_462 kw_463 kw_5 (by decide +kernel) (by decide) rfl hl.1 rfl (Nat.le_of_ble_eq_true rfl) ⟨Nat.zero_le _, Nat.zero_le _⟩ dX7_worthBy_13) (fun H locs hP hS => ?_)
  refine lv_imul hx hb dX7_worthBy_16 ?_
  refine lv_aload_n hx hb dX7_worthBy_17 rfl (lv_at hl 0 rfl) ?_
  refine lv_iload_n hx hb dX7_worthBy_18 rfl (lv_at hl 1 rfl) ?_
  refine lv_iload_n hx hb dX7_worthBy_19 rfl (lv_at hl 2 rfl) ?_
  obtain ⟨r6, hc5, h⟩ := oc_bind h
  refine kro_i (wc := (WD16 cI cC cZ a_M a_M_text a_M_plan a_M_read a_M_readPage a_M_page a_M_trial a_M_book a_M_kept a_M_isKept a_M_seenPoint a_M_seenSum a_M_seenWas M_thrown M_textSize M_place M_doings M_seen M_seed M_bestSet M_text M_plan M_read M_readPage M_page M_trial M_book M_kept M_isKept M_seenPoint M_seenSum M_seenWas)) C0 hP hD hS [0, 1, 2, 3, 4, 5, 6, 7, 8, 9, 10, 11, 12] rfl (kV (n := 2) (As := [.int p1, .int p2]) (rest := [.int ((10000 : Int32) * r4)]) (wc := (WD16 cI cC cZ a_M a_M_text a_M_plan a_M_read a_M_readPage a_M_page a_M_trial a_M_book a_M_kept a_M_isKept a_M_seenPoint a_M_seenSum a_M_seenWas M_thrown M_textSize M_place M_doings M_seen M_seed M_bestSet M_text M_plan M_read M_readPage M_page M_trial M_book M_kept M_isKept M_seenPoint M_seenSum M_seenWas)) (C := RX7) C0 hP hD hS [0, 1, 2, 3, 4, 5, 6, 7, 8, 9, 10, 11, 12] rfl (by decide) (c_X7_sumsBy l D cI cC cZ a_M a_M_text a_M_plan a_M_read a_M_readPage a_M_page a_M_trial a_M_book a_M_kept a_M_isKept a_M_seenPoint a_M_seenSum a_M_seenWas H.size M_thrown M_textSize M_place M_doings M_seen M_seed M_bestSet M_text M_plan M_read M_readPage M_page M_trial M_book M_kept M_isKept M_seenPoint M_seenSum M_seenWas p1 p2 r6 hc5) kw_605 kw_602 kw_603 kw_604 kw_5 (by decide +kernel) (by decide) rfl rfl rfl hl.1 rfl (Nat.le_of_ble_eq_true rfl) ⟨Nat.zero_le _, Nat.zero_le _⟩ dX7_worthBy_20) (fun H locs hP hS => ?_)
  refine lv_iadd hx hb dX7_worthBy_23 ?_
  cases h
  exact kret_i C0 hP hD hS rfl dX7_worthBy_24
abbrev rm_X7_bestSpot : Room := { frames := 9, cells := 0, slots := 0, locals := 228 }
noncomputable def bk_X7_bestSpot_62 (k7 : Int32 → Int32 → Int32 → Option (Int32)) (M_plan : Nat → Int32) (M_page : Nat → Int32) (p2 : Int32) (p3 : Int32) (p4 : Int32) (s0 : Int32) : Option (Int32) := if p4 ≤ p2 then (nm_ (p3 + (1 : Int32)) (fun t2 => k7 s0 p2 t2)) else (nm_ (p3 + (1 : Int32)) (fun t3 => k7 s0 p4 t3))
set_option maxHeartbeats 4000000 in
set_option maxRecDepth 100000 in
theorem wk_X7_bestSpot_62 {p : Program} {l : Launch} {e : Env} {s : State} {m : MethodId} {args : Array Value} {below : List Frame} {meth : Method} {c : Code} {D : va_G} {cI cC cZ : ClassId} {A : Nat → Prop} {a_M a_M_text a_M_plan a_M_read a_M_readPage a_M_page a_M_trial a_M_book a_M_kept a_M_isKept a_M_seenPoint a_M_seenSum a_M_seenWas : Nat} {M_thrown : Int32} {M_textSize : Int32} {M_place : Int32} {M_doings : Int32} {M_seen : Int32} {M_seed : Int64} {M_bestSet : Int32} {M_text : Nat → Int32} {M_plan : Nat → Int32} {M_read : Nat → Int32} {M_readPage : Nat → Int32} {M_page : Nat → Int32} {M_trial : Nat → Int32} {M_book : Nat → Int32} {M_kept : Nat → Int32} {M_isKept : Nat → Int32} {M_seenPoint : Nat → Int32} {M_seenSum : Nat → Int32} {M_seenWas : Nat → Int32} {p2 : Int32} {p3 : Int32} {p4 : Int32} {s0 : Int32} {k7 : Int32 → Int32 → Int32 → Option (Int32)} {rr : Int32} (C0 : kC p s m args meth c D (kTY cI cC cZ) cX7_bestSpot (some .int) 5 RX7 A) (hk7 : ∀ (p1_k : Int32) (p2_k : Int32) (p3_k : Int32), k7 p1_k p2_k p3_k = some rr → ∀ (H : Heap) (locs : List Loc), va_P D vwCl (WD16 cI cC cZ a_M a_M_text a_M_plan a_M_read a_M_readPage a_M_page a_M_trial a_M_book a_M_kept a_M_isKept a_M_seenPoint a_M_seenSum a_M_seenWas M_thrown M_textSize M_place M_doings M_seen M_seed M_bestSet M_text M_plan M_read M_readPage M_page M_trial M_book M_kept M_isKept M_seenPoint M_seenSum M_seenWas) H → va_D A (WD16 cI cC cZ a_M a_M_text a_M_plan a_M_read a_M_readPage a_M_page a_M_trial a_M_book a_M_kept a_M_isKept a_M_seenPoint a_M_seenSum a_M_seenWas M_thrown M_textSize M_place M_doings M_seen M_seed M_bestSet M_text M_plan M_read M_readPage M_page M_trial M_book M_kept M_isKept M_seenPoint M_seenSum M_seenWas) → va_S A s.heap H locs → ∀ ls : Array Slot, lv_has ls 5 [(0, .ref a_M), (1, .int p1_k), (2, .int p2_k), (3, .int p3_k)] → W p l e rm_X7_bestSpot s m args below meth c H locs 0 0 (MQ below (kQI D (kTY cI cC cZ) A rr (WD16 cI cC cZ a_M a_M_text a_M_plan a_M_read a_M_readPage a_M_page a_M_trial a_M_book a_M_kept a_M_isKept a_M_seenPoint a_M_seenSum a_M_seenWas M_thrown M_textSize M_place M_doings M_seen M_seed M_bestSet M_text M_plan M_read M_readPage M_page M_trial M_book M_kept M_isKept M_seenPoint M_seenSum M_seenWas)) args s 0 0 A) (F0 m 7 ls [])) (h : bk_X7_bestSpot_62 k7 M_plan M_page p2 p3 p4 s0 = some rr) {H : Heap} {locs : List Loc} (hP : va_P D vwCl (WD16 cI cC cZ a_M a_M_text a_M_plan a_M_read a_M_readPage a_M_page a_M_trial a_M_book a_M_kept a_M_isKept a_M_seenPoint a_M_seenSum a_M_seenWas M_thrown M_textSize M_place M_doings M_seen M_seed M_bestSet M_text M_plan M_read M_readPage M_page M_trial M_book M_kept M_isKept M_seenPoint M_seenSum M_seenWas) H) (hD : va_D A (WD16 cI cC cZ a_M a_M_text a_M_plan a_M_read a_M_readPage a_M_page a_M_trial a_M_book a_M_kept a_M_isKept a_M_seenPoint a_M_seenSum a_M_seenWas M_thrown M_textSize M_place M_doings M_seen M_seed M_bestSet M_text M_plan M_read M_readPage M_page M_trial M_book M_kept M_isKept M_seenPoint M_seenSum M_seenWas)) (hS : va_S A s.heap H locs) {ls : Array Slot} (hl : lv_has ls 5 [(0, .ref a_M), (2, .int p2), (3, .int p3), (4, .int p4)]) : W p l e rm_X7_bestSpot s m args below meth c H locs 0 0 (MQ below (kQI D (kTY cI cC cZ) A rr (WD16 cI cC cZ a_M a_M_text a_M_plan a_M_read a_M_readPage a_M_page a_M_trial a_M_book a_M_kept a_M_isKept a_M_seenPoint a_M_seenSum a_M_seenWas M_thrown M_textSize M_place M_doings M_seen M_seed M_bestSet M_text M_plan M_read M_readPage M_page M_trial M_book M_kept M_isKept M_seenPoint M_seenSum M_seenWas)) args s 0 0 A) (F0 m 62 ls [.int s0]) := by
  obtain ⟨hx, hb, hr, hml, hown, hts, hK, hN, hA, hlocks, hF⟩ := id C0
  unfold bk_X7_bestSpot_62 at h
  refine lv_istore_n (lv' := [(1, .int s0), (0, .ref a_M), (2, .int p2), (3, .int p3), (4, .int p4)]) hx hb dX7_bestSpot_62 rfl hl (by decide) rfl (fun ls hl => ?_)
  refine lv_iload hx hb dX7_bestSpot_63 (lv_at hl 4 rfl) ?_
  refine lv_iload_n hx hb dX7_bestSpot_65 rfl (lv_at hl 2 rfl) ?_
  refine lv_icmp_le (tgt := 74) hx hb dX7_bestSpot_66 (by decide) (fun c1 => ?_) (fun c1 => ?_)
  · have h := oc_t c1 h
    refine lv_iload_n hx hb dX7_bestSpot_74 rfl (lv_at hl 2 rfl) ?_
    refine lv_istore_n (lv' := [(2, .int p2), (1, .int s0), (0, .ref a_M), (3, .int p3), (4, .int p4)]) hx hb dX7_bestSpot_75 rfl hl (by decide) rfl (fun ls hl => ?_)
    obtain ⟨t2, e_t2⟩ : ∃ y : Int32, y = p3 + (1 : Int32) := ⟨_, rfl⟩
    have h := oc_nm e_t2 h
    refine lv_iinc (v := t2) (lv' := [(3, .int t2), (2, .int p2), (1, .int s0), (0, .ref a_M), (4, .int p4)]) hx hb dX7_bestSpot_76 hl (k := 3) rfl (by rw [e_t2]; rfl) (by decide) rfl (fun ls hl => ?_)
    refine lv_goto (tgt := 7) hx hb dX7_bestSpot_79 (by decide) ?_
    exact hk7 _ _ _ h _ _ hP hD hS _ (lv_sub hl [3, 2, 1, 0] rfl)
  · have h := oc_f c1 h
    refine lv_iload hx hb dX7_bestSpot_69 (lv_at hl 4 rfl) ?_
    refine lv_goto (tgt := 75) hx hb dX7_bestSpot_71 (by decide) ?_
    refine lv_istore_n (lv' := [(2, .int p4), (1, .int s0), (0, .ref a_M), (3, .int p3), (4, .int p4)]) hx hb dX7_bestSpot_75 rfl hl (by decide) rfl (fun ls hl => ?_)
    obtain ⟨t3, e_t3⟩ : ∃ y : Int32, y = p3 + (1 : Int32) := ⟨_, rfl⟩
    have h := oc_nm e_t3 h
    refine lv_iinc (v := t3) (lv' := [(3, .int t3), (2, .int p4), (1, .int s0), (0, .ref a_M), (4, .int p4)]) hx hb dX7_bestSpot_76 hl (k := 3) rfl (by rw [e_t3]; rfl) (by decide) rfl (fun ls hl => ?_)
    refine lv_goto (tgt := 7) hx hb dX7_bestSpot_79 (by decide) ?_
    exact hk7 _ _ _ h _ _ hP hD hS _ (lv_sub hl [3, 2, 1, 0] rfl)
noncomputable def bk_X7_bestSpot_7 (k7 : Int32 → Int32 → Int32 → Option (Int32)) (M_plan : Nat → Int32) (M_page : Nat → Int32) (p1 : Int32) (p2 : Int32) (p3 : Int32) : Option (Int32) := (f_X7_spots M_plan).bind (fun r2 => if r2 ≤ p3 then (some p1) else ((f_X7_has (M_page (Int32.toNatClampNeg (0 : Int32))) p3).bind (fun r5 => if r5 = 0 then ((f_X7_live M_page).bind (fun r9 => (f_X7_worthBy M_plan M_page (r9 ||| ((1 : Int32) <<< (p3 &&& 31))) (M_page (Int32.toNatClampNeg (2 : Int32)))).bind (fun r11 => if r11 ≤ p2 then (bk_X7_bestSpot_62 k7 M_plan M_page p2 p3 r11 p1) else (bk_X7_bestSpot_62 k7 M_plan M_page p2 p3 r11 p3)))) else (nm_ (p3 + (1 : Int32)) (fun t7 => k7 p1 p2 t7)))))
set_option maxHeartbeats 4000000 in
set_option maxRecDepth 100000 in
theorem wk_X7_bestSpot_7 {p : Program} {l : Launch} {e : Env} {s : State} {m : MethodId} {args : Array Value} {below : List Frame} {meth : Method} {c : Code} {D : va_G} {cI cC cZ : ClassId} {A : Nat → Prop} {a_M a_M_text a_M_plan a_M_read a_M_readPage a_M_page a_M_trial a_M_book a_M_kept a_M_isKept a_M_seenPoint a_M_seenSum a_M_seenWas : Nat} {M_thrown : Int32} {M_textSize : Int32} {M_place : Int32} {M_doings : Int32} {M_seen : Int32} {M_seed : Int64} {M_bestSet : Int32} {M_text : Nat → Int32} {M_plan : Nat → Int32} {M_read : Nat → Int32} {M_readPage : Nat → Int32} {M_page : Nat → Int32} {M_trial : Nat → Int32} {M_book : Nat → Int32} {M_kept : Nat → Int32} {M_isKept : Nat → Int32} {M_seenPoint : Nat → Int32} {M_seenSum : Nat → Int32} {M_seenWas : Nat → Int32} {p1 : Int32} {p2 : Int32} {p3 : Int32} {k7 : Int32 → Int32 → Int32 → Option (Int32)} {rr : Int32} (C0 : kC p s m args meth c D (kTY cI cC cZ) cX7_bestSpot (some .int) 5 RX7 A) (hk7 : ∀ (p1_k : Int32) (p2_k : Int32) (p3_k : Int32), k7 p1_k p2_k p3_k = some rr → ∀ (H : Heap) (locs : List Loc), va_P D vwCl (WD16 cI cC cZ a_M a_M_text a_M_plan a_M_read a_M_readPage a_M_page a_M_trial a_M_book a_M_kept a_M_isKept a_M_seenPoint a_M_seenSum a_M_seenWas M_thrown M_textSize M_place M_doings M_seen M_seed M_bestSet M_text M_plan M_read M_readPage M_page M_trial M_book M_kept M_isKept M_seenPoint M_seenSum M_seenWas) H → va_D A (WD16 cI cC cZ a_M a_M_text a_M_plan a_M_read a_M_readPage a_M_page a_M_trial a_M_book a_M_kept a_M_isKept a_M_seenPoint a_M_seenSum a_M_seenWas M_thrown M_textSize M_place M_doings M_seen M_seed M_bestSet M_text M_plan M_read M_readPage M_page M_trial M_book M_kept M_isKept M_seenPoint M_seenSum M_seenWas) → va_S A s.heap H locs → ∀ ls : Array Slot, lv_has ls 5 [(0, .ref a_M), (1, .int p1_k), (2, .int p2_k), (3, .int p3_k)] → W p l e rm_X7_bestSpot s m args below meth c H locs 0 0 (MQ below (kQI D (kTY cI cC cZ) A rr (WD16 cI cC cZ a_M a_M_text a_M_plan a_M_read a_M_readPage a_M_page a_M_trial a_M_book a_M_kept a_M_isKept a_M_seenPoint a_M_seenSum a_M_seenWas M_thrown M_textSize M_place M_doings M_seen M_seed M_bestSet M_text M_plan M_read M_readPage M_page M_trial M_book M_kept M_isKept M_seenPoint M_seenSum M_seenWas)) args s 0 0 A) (F0 m 7 ls [])) (h : bk_X7_bestSpot_7 k7 M_plan M_page p1 p2 p3 = some rr) {H : Heap} {locs : List Loc} (hP : va_P D vwCl (WD16 cI cC cZ a_M a_M_text a_M_plan a_M_read a_M_readPage a_M_page a_M_trial a_M_book a_M_kept a_M_isKept a_M_seenPoint a_M_seenSum a_M_seenWas M_thrown M_textSize M_place M_doings M_seen M_seed M_bestSet M_text M_plan M_read M_readPage M_page M_trial M_book M_kept M_isKept M_seenPoint M_seenSum M_seenWas) H) (hD : va_D A (WD16 cI cC cZ a_M a_M_text a_M_plan a_M_read a_M_readPage a_M_page a_M_trial a_M_book a_M_kept a_M_isKept a_M_seenPoint a_M_seenSum a_M_seenWas M_thrown M_textSize M_place M_doings M_seen M_seed M_bestSet M_text M_plan M_read M_readPage M_page M_trial M_book M_kept M_isKept M_seenPoint M_seenSum M_seenWas)) (hS : va_S A s.heap H locs) {ls : Array Slot} (hl : lv_has ls 5 [(0, .ref a_M), (1, .int p1), (2, .int p2), (3, .int p3)]) : W p l e rm_X7_bestSpot s m args below meth c H locs 0 0 (MQ below (kQI D (kTY cI cC cZ) A rr (WD16 cI cC cZ a_M a_M_text a_M_plan a_M_read a_M_readPage a_M_page a_M_trial a_M_book a_M_kept a_M_isKept a_M_seenPoint a_M_seenSum a_M_seenWas M_thrown M_textSize M_place M_doings M_seen M_seed M_bestSet M_text M_plan M_read M_readPage M_page M_trial M_book M_kept M_isKept M_seenPoint M_seenSum M_seenWas)) args s 0 0 A) (F0 m 7 ls []) := by
  obtain ⟨hx, hb, hr, hml, hown, hts, hK, hN, hA, hlocks, hF⟩ := id C0
  unfold bk_X7_bestSpot_7 at h
  refine lv_iload_n hx hb dX7_bestSpot_7 rfl (lv_at hl 3 rfl) ?_
  refine lv_aload_n hx hb dX7_bestSpot_8 rfl (lv_at hl 0 rfl) ?_
  obtain ⟨r2, hc1, h⟩ := oc_bind h
  refine kro_i (wc := (WD16 cI cC cZ a_M a_M_text a_M_plan a_M_read a_M_readPage a_M_page a_M_trial a_M_book a_M_kept a_M_isKept a_M_seenPoint a_M_seenSum a_M_seenWas M_thrown M_textSize M_place M_doings M_seen M_seed M_bestSet M_text M_plan M_read M_readPage M_page M_trial M_book M_kept M_isKept M_seenPoint M_seenSum M_seenWas)) C0 hP hD hS [0, 1, 2, 3, 4, 5, 6, 7, 8, 9, 10, 11, 12] rfl (kV (n := 0) (As := []) (rest := [.int p3]) (wc := (WD16 cI cC cZ a_M a_M_text a_M_plan a_M_read a_M_readPage a_M_page a_M_trial a_M_book a_M_kept a_M_isKept a_M_seenPoint a_M_seenSum a_M_seenWas M_thrown M_textSize M_place M_doings M_seen M_seed M_bestSet M_text M_plan M_read M_readPage M_page M_trial M_book M_kept M_isKept M_seenPoint M_seenSum M_seenWas)) (C := RX7) C0 hP hD hS [0, 1, 2, 3, 4, 5, 6, 7, 8, 9, 10, 11, 12] rfl (by decide) (c_X7_spots l D cI cC cZ a_M a_M_text a_M_plan a_M_read a_M_readPage a_M_page a_M_trial a_M_book a_M_kept a_M_isKept a_M_seenPoint a_M_seenSum a_M_seenWas H.size M_thrown M_textSize M_place M_doings M_seen M_seed M_bestSet M_text M_plan M_read M_readPage M_page M_trial M_book M_kept M_isKept M_seenPoint M_seenSum M_seenWas  r2 hc1) kw_280 kw_277 kw_278 kw_279 kw_5 (by decide +kernel) (by decide) rfl rfl rfl hl.1 rfl (Nat.le_of_ble_eq_true rfl) ⟨Nat.zero_le _, Nat.zero_le _⟩ dX7_bestSpot_9) (fun H locs hP hS => ?_)
  refine lv_icmp_ge (tgt := 82) hx hb dX7_bestSpot_12 (by decide) (fun c3 => ?_) (fun c3 => ?_)
  · have h := oc_t c3 h
    refine lv_iload_n hx hb dX7_bestSpot_82 rfl (lv_at hl 1 rfl) ?_
    cases h
    exact kret_i C0 hP hD hS rfl dX7_bestSpot_83
  · have h := oc_f c3 h
    refine lv_aload_n hx hb dX7_bestSpot_15 rfl (lv_at hl 0 rfl) ?_
    refine va_get (D := D) (ci := 7) (v := .ref a_M_page) (C := RX7) (T := TX7) (N := 19) hx hb hts inlX7 hown hK hP 0 rfl rfl 7 (by decide) (hts _ kw_88) (fun _ h9 => h9) rfl dX7_bestSpot_16 ?_
    refine lv_iconst (v := (0 : Int32)) hx hb dX7_bestSpot_19 (by decide) ?_
    refine va_iald hx hb hK hP 5 0 rfl rfl (show ¬ ((0 : Int32) < 0 ∨ 9 ≤ Int32.toNatClampNeg (0 : Int32)) by decide) dX7_bestSpot_20 ?_
    refine lv_iload_n hx hb dX7_bestSpot_21 rfl (lv_at hl 3 rfl) ?_
    obtain ⟨r5, hc4, h⟩ := oc_bind h
    refine kro_i (wc := (WD0 cI cC cZ)) C0 hP hD hS [] rfl (kS (n := 2) (As := [.int (M_page (Int32.toNatClampNeg (0 : Int32))), .int p3]) (rest := []) (wc := (WD0 cI cC cZ)) C0 hP hD hS [] rfl (by decide) (c_X7_has l D cI cC cZ  H.size  (M_page (Int32.toNatClampNeg (0 : Int32))) p3 r5 hc4) kw_371 kw_369 kw_370 kw_5 (by decide +kernel) (by decide) rfl hl.1 rfl (Nat.le_of_ble_eq_true rfl) ⟨Nat.zero_le _, Nat.zero_le _⟩ dX7_bestSpot_22) (fun H locs hP hS => ?_)
    refine lv_if_ne (tgt := 76) hx hb dX7_bestSpot_25 (by decide) (fun c6 => ?_) (fun c6 => ?_)
    · have h := oc_f c6 h
      obtain ⟨t7, e_t7⟩ : ∃ y : Int32, y = p3 + (1 : Int32) := ⟨_, rfl⟩
      have h := oc_nm e_t7 h
      refine lv_iinc (v := t7) (lv' := [(3, .int t7), (0, .ref a_M), (1, .int p1), (2, .int p2)]) hx hb dX7_bestSpot_76 hl (k := 3) rfl (by rw [e_t7]; rfl) (by decide) rfl (fun ls hl => ?_)
      refine lv_goto (tgt := 7) hx hb dX7_bestSpot_79 (by decide) ?_
      exact hk7 _ _ _ h _ _ hP hD hS _ (lv_sub hl [1, 2, 3, 0] rfl)
    · have h := oc_t c6 h
      refine lv_aload_n hx hb dX7_bestSpot_28 rfl (lv_at hl 0 rfl) ?_
      refine lv_aload_n hx hb dX7_bestSpot_29 rfl (lv_at hl 0 rfl) ?_
      refine va_get (D := D) (ci := 7) (v := .ref a_M_page) (C := RX7) (T := TX7) (N := 19) hx hb hts inlX7 hown hK hP 0 rfl rfl 7 (by decide) (hts _ kw_88) (fun _ h9 => h9) rfl dX7_bestSpot_30 ?_
      obtain ⟨r9, hc8, h⟩ := oc_bind h
      refine kro_i (wc := (WD17 cI cC cZ a_M_page M_page)) C0 hP hD hS [5] rfl (kS (n := 1) (As := [.ref a_M_page]) (rest := [.ref a_M]) (wc := (WD17 cI cC cZ a_M_page M_page)) C0 hP hD hS [5] rfl (by decide) (c_X7_live l D cI cC cZ a_M_page H.size M_page  r9 hc8) kw_364 kw_362 kw_363 kw_5 (by decide +kernel) (by decide) rfl hl.1 rfl (Nat.le_of_ble_eq_true rfl) ⟨Nat.zero_le _, Nat.zero_le _⟩ dX7_bestSpot_33) (fun H locs hP hS => ?_)
      refine lv_iconst (v := (1 : Int32)) hx hb dX7_bestSpot_36 (by decide) ?_
      refine lv_iload_n hx hb dX7_bestSpot_37 rfl (lv_at hl 3 rfl) ?_
      refine lv_ishl hx hb dX7_bestSpot_38 ?_
      refine lv_ior hx hb dX7_bestSpot_39 ?_
      refine lv_aload_n hx hb dX7_bestSpot_40 rfl (lv_at hl 0 rfl) ?_
      refine va_get (D := D) (ci := 7) (v := .ref a_M_page) (C := RX7) (T := TX7) (N := 19) hx hb hts inlX7 hown hK hP 0 rfl rfl 7 (by decide) (hts _ kw_88) (fun _ h9 => h9) rfl dX7_bestSpot_41 ?_
      refine lv_iconst (v := (2 : Int32)) hx hb dX7_bestSpot_44 (by decide) ?_
      refine va_iald hx hb hK hP 5 0 rfl rfl (show ¬ ((2 : Int32) < 0 ∨ 9 ≤ Int32.toNatClampNeg (2 : Int32)) by decide) dX7_bestSpot_45 ?_
      obtain ⟨r11, hc10, h⟩ := oc_bind h
      refine kro_i (wc := (WD16 cI cC cZ a_M a_M_text a_M_plan a_M_read a_M_readPage a_M_page a_M_trial a_M_book a_M_kept a_M_isKept a_M_seenPoint a_M_seenSum a_M_seenWas M_thrown M_textSize M_place M_doings M_seen M_seed M_bestSet M_text M_plan M_read M_readPage M_page M_trial M_book M_kept M_isKept M_seenPoint M_seenSum M_seenWas)) C0 hP hD hS [0, 1, 2, 3, 4, 5, 6, 7, 8, 9, 10, 11, 12] rfl (kV (n := 2) (As := [.int (r9 ||| ((1 : Int32) <<< (p3 &&& 31))), .int (M_page (Int32.toNatClampNeg (2 : Int32)))]) (rest := []) (wc := (WD16 cI cC cZ a_M a_M_text a_M_plan a_M_read a_M_readPage a_M_page a_M_trial a_M_book a_M_kept a_M_isKept a_M_seenPoint a_M_seenSum a_M_seenWas M_thrown M_textSize M_place M_doings M_seen M_seed M_bestSet M_text M_plan M_read M_readPage M_page M_trial M_book M_kept M_isKept M_seenPoint M_seenSum M_seenWas)) (C := RX7) C0 hP hD hS [0, 1, 2, 3, 4, 5, 6, 7, 8, 9, 10, 11, 12] rfl (by decide) (c_X7_worthBy l D cI cC cZ a_M a_M_text a_M_plan a_M_read a_M_readPage a_M_page a_M_trial a_M_book a_M_kept a_M_isKept a_M_seenPoint a_M_seenSum a_M_seenWas H.size M_thrown M_textSize M_place M_doings M_seen M_seed M_bestSet M_text M_plan M_read M_readPage M_page M_trial M_book M_kept M_isKept M_seenPoint M_seenSum M_seenWas (r9 ||| ((1 : Int32) <<< (p3 &&& 31))) (M_page (Int32.toNatClampNeg (2 : Int32))) r11 hc10) kw_601 kw_598 kw_599 kw_600 kw_5 (by decide +kernel) (by decide) rfl rfl rfl hl.1 rfl (Nat.le_of_ble_eq_true rfl) ⟨Nat.zero_le _, Nat.zero_le _⟩ dX7_bestSpot_46) (fun H locs hP hS => ?_)
      refine lv_istore (lv' := [(4, .int r11), (0, .ref a_M), (1, .int p1), (2, .int p2), (3, .int p3)]) hx hb dX7_bestSpot_49 hl (by decide) rfl (fun ls hl => ?_)
      refine lv_iload hx hb dX7_bestSpot_51 (lv_at hl 0 rfl) ?_
      refine lv_iload_n hx hb dX7_bestSpot_53 rfl (lv_at hl 3 rfl) ?_
      refine lv_icmp_le (tgt := 61) hx hb dX7_bestSpot_54 (by decide) (fun c12 => ?_) (fun c12 => ?_)
      · have h := oc_t c12 h
        refine lv_iload_n hx hb dX7_bestSpot_61 rfl (lv_at hl 2 rfl) ?_
        exact wk_X7_bestSpot_62 C0 hk7 h hP hD hS (lv_sub hl [1, 3, 4, 0] rfl)
      · have h := oc_f c12 h
        refine lv_iload_n hx hb dX7_bestSpot_57 rfl (lv_at hl 4 rfl) ?_
        refine lv_goto (tgt := 62) hx hb dX7_bestSpot_58 (by decide) ?_
        exact wk_X7_bestSpot_62 C0 hk7 h hP hD hS (lv_sub hl [1, 3, 4, 0] rfl)
noncomputable def lp_X7_bestSpot_7  (M_plan : Nat → Int32) (M_page : Nat → Int32) (n : Nat) : Int32 → Int32 → Int32 → Option (Int32) := Nat.rec (motive := fun _ => Int32 → Int32 → Int32 → Option (Int32)) (fun _ _ _ => none) (fun _ ih => bk_X7_bestSpot_7  ih M_plan M_page) n
set_option maxHeartbeats 4000000 in
set_option maxRecDepth 100000 in
theorem wl_X7_bestSpot_7 {p : Program} {l : Launch} {e : Env} {s : State} {m : MethodId} {args : Array Value} {below : List Frame} {meth : Method} {c : Code} {D : va_G} {cI cC cZ : ClassId} {A : Nat → Prop} {a_M a_M_text a_M_plan a_M_read a_M_readPage a_M_page a_M_trial a_M_book a_M_kept a_M_isKept a_M_seenPoint a_M_seenSum a_M_seenWas : Nat} {M_thrown : Int32} {M_textSize : Int32} {M_place : Int32} {M_doings : Int32} {M_seen : Int32} {M_seed : Int64} {M_bestSet : Int32} {M_text : Nat → Int32} {M_plan : Nat → Int32} {M_read : Nat → Int32} {M_readPage : Nat → Int32} {M_page : Nat → Int32} {M_trial : Nat → Int32} {M_book : Nat → Int32} {M_kept : Nat → Int32} {M_isKept : Nat → Int32} {M_seenPoint : Nat → Int32} {M_seenSum : Nat → Int32} {M_seenWas : Nat → Int32}  {rr : Int32} (C0 : kC p s m args meth c D (kTY cI cC cZ) cX7_bestSpot (some .int) 5 RX7 A)  : ∀ (n : Nat) (p1 : Int32) (p2 : Int32) (p3 : Int32), lp_X7_bestSpot_7  M_plan M_page n p1 p2 p3 = some rr → ∀ (H : Heap) (locs : List Loc), va_P D vwCl (WD16 cI cC cZ a_M a_M_text a_M_plan a_M_read a_M_readPage a_M_page a_M_trial a_M_book a_M_kept a_M_isKept a_M_seenPoint a_M_seenSum a_M_seenWas M_thrown M_textSize M_place M_doings M_seen M_seed M_bestSet M_text M_plan M_read M_readPage M_page M_trial M_book M_kept M_isKept M_seenPoint M_seenSum M_seenWas) H → va_D A (WD16 cI cC cZ a_M a_M_text a_M_plan a_M_read a_M_readPage a_M_page a_M_trial a_M_book a_M_kept a_M_isKept a_M_seenPoint a_M_seenSum a_M_seenWas M_thrown M_textSize M_place M_doings M_seen M_seed M_bestSet M_text M_plan M_read M_readPage M_page M_trial M_book M_kept M_isKept M_seenPoint M_seenSum M_seenWas) → va_S A s.heap H locs → ∀ ls : Array Slot, lv_has ls 5 [(0, .ref a_M), (1, .int p1), (2, .int p2), (3, .int p3)] → W p l e rm_X7_bestSpot s m args below meth c H locs 0 0 (MQ below (kQI D (kTY cI cC cZ) A rr (WD16 cI cC cZ a_M a_M_text a_M_plan a_M_read a_M_readPage a_M_page a_M_trial a_M_book a_M_kept a_M_isKept a_M_seenPoint a_M_seenSum a_M_seenWas M_thrown M_textSize M_place M_doings M_seen M_seed M_bestSet M_text M_plan M_read M_readPage M_page M_trial M_book M_kept M_isKept M_seenPoint M_seenSum M_seenWas)) args s 0 0 A) (F0 m 7 ls []) := by
  intro n
  induction n with
  | zero => intro p1 p2 p3 h; cases (show (none : Option (Int32)) = some _ from h)
  | succ n ih =>
    intro p1 p2 p3 h H locs hP hD hS ls hl
    exact wk_X7_bestSpot_7 C0  (fun p1 p2 p3 h H locs hP hD hS ls hl => ih p1 p2 p3 h H locs hP hD hS ls hl) (show bk_X7_bestSpot_7  (lp_X7_bestSpot_7  M_plan M_page n) M_plan M_page p1 p2 p3 = some _ from h) hP hD hS hl
noncomputable def f_X7_bestSpot (M_plan : Nat → Int32) (M_page : Nat → Int32)  : Option (Int32) := lp_X7_bestSpot_7  M_plan M_page 1000 (-9 : Int32) (-1 : Int32) (0 : Int32)
set_option maxHeartbeats 4000000 in
set_option maxRecDepth 100000 in
theorem c_X7_bestSpot (l : Launch) (D : va_G) (cI cC cZ : ClassId) (a_M a_M_text a_M_plan a_M_read a_M_readPage a_M_page a_M_trial a_M_book a_M_kept a_M_isKept a_M_seenPoint a_M_seenSum a_M_seenWas : Nat) (sz : Nat) (M_thrown : Int32) (M_textSize : Int32) (M_place : Int32) (M_doings : Int32) (M_seen : Int32) (M_seed : Int64) (M_bestSet : Int32) (M_text : Nat → Int32) (M_plan : Nat → Int32) (M_read : Nat → Int32) (M_readPage : Nat → Int32) (M_page : Nat → Int32) (M_trial : Nat → Int32) (M_book : Nat → Int32) (M_kept : Nat → Int32) (M_isKept : Nat → Int32) (M_seenPoint : Nat → Int32) (M_seenSum : Nat → Int32) (M_seenWas : Nat → Int32) (rr : Int32) (hf : f_X7_bestSpot M_plan M_page = some rr) : kMet l yX7_bestSpot cX7_bestSpot 5 (some .int) rm_X7_bestSpot D (kTY cI cC cZ) [.ref a_M] (WD16 cI cC cZ a_M a_M_text a_M_plan a_M_read a_M_readPage a_M_page a_M_trial a_M_book a_M_kept a_M_isKept a_M_seenPoint a_M_seenSum a_M_seenWas M_thrown M_textSize M_place M_doings M_seen M_seed M_bestSet M_text M_plan M_read M_readPage M_page M_trial M_book M_kept M_isKept M_seenPoint M_seenSum M_seenWas) sz (kQI D (kTY cI cC cZ) (va_A (WD16 cI cC cZ a_M a_M_text a_M_plan a_M_read a_M_readPage a_M_page a_M_trial a_M_book a_M_kept a_M_isKept a_M_seenPoint a_M_seenSum a_M_seenWas M_thrown M_textSize M_place M_doings M_seen M_seed M_bestSet M_text M_plan M_read M_readPage M_page M_trial M_book M_kept M_isKept M_seenPoint M_seenSum M_seenWas) sz) rr (WD16 cI cC cZ a_M a_M_text a_M_plan a_M_read a_M_readPage a_M_page a_M_trial a_M_book a_M_kept a_M_isKept a_M_seenPoint a_M_seenSum a_M_seenWas M_thrown M_textSize M_place M_doings M_seen M_seed M_bestSet M_text M_plan M_read M_readPage M_page M_trial M_book M_kept M_isKept M_seenPoint M_seenSum M_seenWas)) := by
  refine kEnter (lv := [(0, .ref a_M)]) (own := RX7) (by decide) rfl (Nat.le_of_ble_eq_true rfl) rfl ?_
  intro p e s m below meth c hsz C0 hP hD hS ls hl
  generalize (va_A (WD16 cI cC cZ a_M a_M_text a_M_plan a_M_read a_M_readPage a_M_page a_M_trial a_M_book a_M_kept a_M_isKept a_M_seenPoint a_M_seenSum a_M_seenWas M_thrown M_textSize M_place M_doings M_seen M_seed M_bestSet M_text M_plan M_read M_readPage M_page M_trial M_book M_kept M_isKept M_seenPoint M_seenSum M_seenWas) sz) = A at C0 hD hS ⊢
  clear hsz hS
  obtain ⟨H, hHs⟩ : ∃ H : Heap, H = s.heap := ⟨_, rfl⟩
  have hS : va_S A s.heap H [] := by rw [hHs]; exact va_S.rf
  rw [← hHs] at hP ⊢
  obtain ⟨hx, hb, hr, hml, hown, hts, hK, hN, hA, hlocks, hF⟩ := id C0
  have h := hf
  unfold f_X7_bestSpot at h
  refine lv_bipush (v := (-9 : Int32)) hx hb dX7_bestSpot_0 (by decide) ?_
  refine lv_istore_n (lv' := [(1, .int (-9 : Int32)), (0, .ref a_M)]) hx hb dX7_bestSpot_2 rfl hl (by decide) rfl (fun ls hl => ?_)
  refine lv_iconst (v := (-1 : Int32)) hx hb dX7_bestSpot_3 (by decide) ?_
  refine lv_istore_n (lv' := [(2, .int (-1 : Int32)), (1, .int (-9 : Int32)), (0, .ref a_M)]) hx hb dX7_bestSpot_4 rfl hl (by decide) rfl (fun ls hl => ?_)
  refine lv_iconst (v := (0 : Int32)) hx hb dX7_bestSpot_5 (by decide) ?_
  refine lv_istore_n (lv' := [(3, .int (0 : Int32)), (2, .int (-1 : Int32)), (1, .int (-9 : Int32)), (0, .ref a_M)]) hx hb dX7_bestSpot_6 rfl hl (by decide) rfl (fun ls hl => ?_)
  exact wl_X7_bestSpot_7 C0  _ _ _ _ h _ _ hP hD hS _ (lv_sub hl [3, 2, 1, 0] rfl)
abbrev rm_X7_worstWall : Room := { frames := 9, cells := 0, slots := 0, locals := 228 }
noncomputable def bk_X7_worstWall_64 (k7 : Int32 → Int32 → Int32 → Option (Int32)) (M_plan : Nat → Int32) (M_page : Nat → Int32) (p2 : Int32) (p3 : Int32) (p4 : Int32) (s0 : Int32) : Option (Int32) := if p4 ≤ p2 then (nm_ (p3 + (1 : Int32)) (fun t2 => k7 s0 p2 t2)) else (nm_ (p3 + (1 : Int32)) (fun t3 => k7 s0 p4 t3))
set_option maxHeartbeats 4000000 in
set_option maxRecDepth 100000 in
theorem wk_X7_worstWall_64 {p : Program} {l : Launch} {e : Env} {s : State} {m : MethodId} {args : Array Value} {below : List Frame} {meth : Method} {c : Code} {D : va_G} {cI cC cZ : ClassId} {A : Nat → Prop} {a_M a_M_text a_M_plan a_M_read a_M_readPage a_M_page a_M_trial a_M_book a_M_kept a_M_isKept a_M_seenPoint a_M_seenSum a_M_seenWas : Nat} {M_thrown : Int32} {M_textSize : Int32} {M_place : Int32} {M_doings : Int32} {M_seen : Int32} {M_seed : Int64} {M_bestSet : Int32} {M_text : Nat → Int32} {M_plan : Nat → Int32} {M_read : Nat → Int32} {M_readPage : Nat → Int32} {M_page : Nat → Int32} {M_trial : Nat → Int32} {M_book : Nat → Int32} {M_kept : Nat → Int32} {M_isKept : Nat → Int32} {M_seenPoint : Nat → Int32} {M_seenSum : Nat → Int32} {M_seenWas : Nat → Int32} {p2 : Int32} {p3 : Int32} {p4 : Int32} {s0 : Int32} {k7 : Int32 → Int32 → Int32 → Option (Int32)} {rr : Int32} (C0 : kC p s m args meth c D (kTY cI cC cZ) cX7_worstWall (some .int) 5 RX7 A) (hk7 : ∀ (p1_k : Int32) (p2_k : Int32) (p3_k : Int32), k7 p1_k p2_k p3_k = some rr → ∀ (H : Heap) (locs : List Loc), va_P D vwCl (WD16 cI cC cZ a_M a_M_text a_M_plan a_M_read a_M_readPage a_M_page a_M_trial a_M_book a_M_kept a_M_isKept a_M_seenPoint a_M_seenSum a_M_seenWas M_thrown M_textSize M_place M_doings M_seen M_seed M_bestSet M_text M_plan M_read M_readPage M_page M_trial M_book M_kept M_isKept M_seenPoint M_seenSum M_seenWas) H → va_D A (WD16 cI cC cZ a_M a_M_text a_M_plan a_M_read a_M_readPage a_M_page a_M_trial a_M_book a_M_kept a_M_isKept a_M_seenPoint a_M_seenSum a_M_seenWas M_thrown M_textSize M_place M_doings M_seen M_seed M_bestSet M_text M_plan M_read M_readPage M_page M_trial M_book M_kept M_isKept M_seenPoint M_seenSum M_seenWas) → va_S A s.heap H locs → ∀ ls : Array Slot, lv_has ls 5 [(0, .ref a_M), (1, .int p1_k), (2, .int p2_k), (3, .int p3_k)] → W p l e rm_X7_worstWall s m args below meth c H locs 0 0 (MQ below (kQI D (kTY cI cC cZ) A rr (WD16 cI cC cZ a_M a_M_text a_M_plan a_M_read a_M_readPage a_M_page a_M_trial a_M_book a_M_kept a_M_isKept a_M_seenPoint a_M_seenSum a_M_seenWas M_thrown M_textSize M_place M_doings M_seen M_seed M_bestSet M_text M_plan M_read M_readPage M_page M_trial M_book M_kept M_isKept M_seenPoint M_seenSum M_seenWas)) args s 0 0 A) (F0 m 7 ls [])) (h : bk_X7_worstWall_64 k7 M_plan M_page p2 p3 p4 s0 = some rr) {H : Heap} {locs : List Loc} (hP : va_P D vwCl (WD16 cI cC cZ a_M a_M_text a_M_plan a_M_read a_M_readPage a_M_page a_M_trial a_M_book a_M_kept a_M_isKept a_M_seenPoint a_M_seenSum a_M_seenWas M_thrown M_textSize M_place M_doings M_seen M_seed M_bestSet M_text M_plan M_read M_readPage M_page M_trial M_book M_kept M_isKept M_seenPoint M_seenSum M_seenWas) H) (hD : va_D A (WD16 cI cC cZ a_M a_M_text a_M_plan a_M_read a_M_readPage a_M_page a_M_trial a_M_book a_M_kept a_M_isKept a_M_seenPoint a_M_seenSum a_M_seenWas M_thrown M_textSize M_place M_doings M_seen M_seed M_bestSet M_text M_plan M_read M_readPage M_page M_trial M_book M_kept M_isKept M_seenPoint M_seenSum M_seenWas)) (hS : va_S A s.heap H locs) {ls : Array Slot} (hl : lv_has ls 5 [(0, .ref a_M), (2, .int p2), (3, .int p3), (4, .int p4)]) : W p l e rm_X7_worstWall s m args below meth c H locs 0 0 (MQ below (kQI D (kTY cI cC cZ) A rr (WD16 cI cC cZ a_M a_M_text a_M_plan a_M_read a_M_readPage a_M_page a_M_trial a_M_book a_M_kept a_M_isKept a_M_seenPoint a_M_seenSum a_M_seenWas M_thrown M_textSize M_place M_doings M_seen M_seed M_bestSet M_text M_plan M_read M_readPage M_page M_trial M_book M_kept M_isKept M_seenPoint M_seenSum M_seenWas)) args s 0 0 A) (F0 m 64 ls [.int s0]) := by
  obtain ⟨hx, hb, hr, hml, hown, hts, hK, hN, hA, hlocks, hF⟩ := id C0
  unfold bk_X7_worstWall_64 at h
  refine lv_istore_n (lv' := [(1, .int s0), (0, .ref a_M), (2, .int p2), (3, .int p3), (4, .int p4)]) hx hb dX7_worstWall_64 rfl hl (by decide) rfl (fun ls hl => ?_)
  refine lv_iload hx hb dX7_worstWall_65 (lv_at hl 4 rfl) ?_
  refine lv_iload_n hx hb dX7_worstWall_67 rfl (lv_at hl 2 rfl) ?_
  refine lv_icmp_le (tgt := 76) hx hb dX7_worstWall_68 (by decide) (fun c1 => ?_) (fun c1 => ?_)
  · have h := oc_t c1 h
    refine lv_iload_n hx hb dX7_worstWall_76 rfl (lv_at hl 2 rfl) ?_
    refine lv_istore_n (lv' := [(2, .int p2), (1, .int s0), (0, .ref a_M), (3, .int p3), (4, .int p4)]) hx hb dX7_worstWall_77 rfl hl (by decide) rfl (fun ls hl => ?_)
    obtain ⟨t2, e_t2⟩ : ∃ y : Int32, y = p3 + (1 : Int32) := ⟨_, rfl⟩
    have h := oc_nm e_t2 h
    refine lv_iinc (v := t2) (lv' := [(3, .int t2), (2, .int p2), (1, .int s0), (0, .ref a_M), (4, .int p4)]) hx hb dX7_worstWall_78 hl (k := 3) rfl (by rw [e_t2]; rfl) (by decide) rfl (fun ls hl => ?_)
    refine lv_goto (tgt := 7) hx hb dX7_worstWall_81 (by decide) ?_
    exact hk7 _ _ _ h _ _ hP hD hS _ (lv_sub hl [3, 2, 1, 0] rfl)
  · have h := oc_f c1 h
    refine lv_iload hx hb dX7_worstWall_71 (lv_at hl 4 rfl) ?_
    refine lv_goto (tgt := 77) hx hb dX7_worstWall_73 (by decide) ?_
    refine lv_istore_n (lv' := [(2, .int p4), (1, .int s0), (0, .ref a_M), (3, .int p3), (4, .int p4)]) hx hb dX7_worstWall_77 rfl hl (by decide) rfl (fun ls hl => ?_)
    obtain ⟨t3, e_t3⟩ : ∃ y : Int32, y = p3 + (1 : Int32) := ⟨_, rfl⟩
    have h := oc_nm e_t3 h
    refine lv_iinc (v := t3) (lv' := [(3, .int t3), (2, .int p4), (1, .int s0), (0, .ref a_M), (4, .int p4)]) hx hb dX7_worstWall_78 hl (k := 3) rfl (by rw [e_t3]; rfl) (by decide) rfl (fun ls hl => ?_)
    refine lv_goto (tgt := 7) hx hb dX7_worstWall_81 (by decide) ?_
    exact hk7 _ _ _ h _ _ hP hD hS _ (lv_sub hl [3, 2, 1, 0] rfl)
noncomputable def bk_X7_worstWall_7 (k7 : Int32 → Int32 → Int32 → Option (Int32)) (M_plan : Nat → Int32) (M_page : Nat → Int32) (p1 : Int32) (p2 : Int32) (p3 : Int32) : Option (Int32) := (f_X7_walls M_plan).bind (fun r2 => if r2 ≤ p3 then (some p1) else ((f_X7_has (M_page (Int32.toNatClampNeg (2 : Int32))) p3).bind (fun r5 => if r5 = 0 then (nm_ (p3 + (1 : Int32)) (fun t7 => k7 p1 p2 t7)) else ((f_X7_live M_page).bind (fun r9 => (f_X7_worthBy M_plan M_page r9 ((M_page (Int32.toNatClampNeg (2 : Int32))) &&& (((1 : Int32) <<< (p3 &&& 31)) ^^^ (-1 : Int32)))).bind (fun r11 => if r11 ≤ p2 then (bk_X7_worstWall_64 k7 M_plan M_page p2 p3 r11 p1) else (bk_X7_worstWall_64 k7 M_plan M_page p2 p3 r11 p3)))))))
set_option maxHeartbeats 4000000 in
set_option maxRecDepth 100000 in
theorem wk_X7_worstWall_7 {p : Program} {l : Launch} {e : Env} {s : State} {m : MethodId} {args : Array Value} {below : List Frame} {meth : Method} {c : Code} {D : va_G} {cI cC cZ : ClassId} {A : Nat → Prop} {a_M a_M_text a_M_plan a_M_read a_M_readPage a_M_page a_M_trial a_M_book a_M_kept a_M_isKept a_M_seenPoint a_M_seenSum a_M_seenWas : Nat} {M_thrown : Int32} {M_textSize : Int32} {M_place : Int32} {M_doings : Int32} {M_seen : Int32} {M_seed : Int64} {M_bestSet : Int32} {M_text : Nat → Int32} {M_plan : Nat → Int32} {M_read : Nat → Int32} {M_readPage : Nat → Int32} {M_page : Nat → Int32} {M_trial : Nat → Int32} {M_book : Nat → Int32} {M_kept : Nat → Int32} {M_isKept : Nat → Int32} {M_seenPoint : Nat → Int32} {M_seenSum : Nat → Int32} {M_seenWas : Nat → Int32} {p1 : Int32} {p2 : Int32} {p3 : Int32} {k7 : Int32 → Int32 → Int32 → Option (Int32)} {rr : Int32} (C0 : kC p s m args meth c D (kTY cI cC cZ) cX7_worstWall (some .int) 5 RX7 A) (hk7 : ∀ (p1_k : Int32) (p2_k : Int32) (p3_k : Int32), k7 p1_k p2_k p3_k = some rr → ∀ (H : Heap) (locs : List Loc), va_P D vwCl (WD16 cI cC cZ a_M a_M_text a_M_plan a_M_read a_M_readPage a_M_page a_M_trial a_M_book a_M_kept a_M_isKept a_M_seenPoint a_M_seenSum a_M_seenWas M_thrown M_textSize M_place M_doings M_seen M_seed M_bestSet M_text M_plan M_read M_readPage M_page M_trial M_book M_kept M_isKept M_seenPoint M_seenSum M_seenWas) H → va_D A (WD16 cI cC cZ a_M a_M_text a_M_plan a_M_read a_M_readPage a_M_page a_M_trial a_M_book a_M_kept a_M_isKept a_M_seenPoint a_M_seenSum a_M_seenWas M_thrown M_textSize M_place M_doings M_seen M_seed M_bestSet M_text M_plan M_read M_readPage M_page M_trial M_book M_kept M_isKept M_seenPoint M_seenSum M_seenWas) → va_S A s.heap H locs → ∀ ls : Array Slot, lv_has ls 5 [(0, .ref a_M), (1, .int p1_k), (2, .int p2_k), (3, .int p3_k)] → W p l e rm_X7_worstWall s m args below meth c H locs 0 0 (MQ below (kQI D (kTY cI cC cZ) A rr (WD16 cI cC cZ a_M a_M_text a_M_plan a_M_read a_M_readPage a_M_page a_M_trial a_M_book a_M_kept a_M_isKept a_M_seenPoint a_M_seenSum a_M_seenWas M_thrown M_textSize M_place M_doings M_seen M_seed M_bestSet M_text M_plan M_read M_readPage M_page M_trial M_book M_kept M_isKept M_seenPoint M_seenSum M_seenWas)) args s 0 0 A) (F0 m 7 ls [])) (h : bk_X7_worstWall_7 k7 M_plan M_page p1 p2 p3 = some rr) {H : Heap} {locs : List Loc} (hP : va_P D vwCl (WD16 cI cC cZ a_M a_M_text a_M_plan a_M_read a_M_readPage a_M_page a_M_trial a_M_book a_M_kept a_M_isKept a_M_seenPoint a_M_seenSum a_M_seenWas M_thrown M_textSize M_place M_doings M_seen M_seed M_bestSet M_text M_plan M_read M_readPage M_page M_trial M_book M_kept M_isKept M_seenPoint M_seenSum M_seenWas) H) (hD : va_D A (WD16 cI cC cZ a_M a_M_text a_M_plan a_M_read a_M_readPage a_M_page a_M_trial a_M_book a_M_kept a_M_isKept a_M_seenPoint a_M_seenSum a_M_seenWas M_thrown M_textSize M_place M_doings M_seen M_seed M_bestSet M_text M_plan M_read M_readPage M_page M_trial M_book M_kept M_isKept M_seenPoint M_seenSum M_seenWas)) (hS : va_S A s.heap H locs) {ls : Array Slot} (hl : lv_has ls 5 [(0, .ref a_M), (1, .int p1), (2, .int p2), (3, .int p3)]) : W p l e rm_X7_worstWall s m args below meth c H locs 0 0 (MQ below (kQI D (kTY cI cC cZ) A rr (WD16 cI cC cZ a_M a_M_text a_M_plan a_M_read a_M_readPage a_M_page a_M_trial a_M_book a_M_kept a_M_isKept a_M_seenPoint a_M_seenSum a_M_seenWas M_thrown M_textSize M_place M_doings M_seen M_seed M_bestSet M_text M_plan M_read M_readPage M_page M_trial M_book M_kept M_isKept M_seenPoint M_seenSum M_seenWas)) args s 0 0 A) (F0 m 7 ls []) := by
  obtain ⟨hx, hb, hr, hml, hown, hts, hK, hN, hA, hlocks, hF⟩ := id C0
  unfold bk_X7_worstWall_7 at h
  refine lv_iload_n hx hb dX7_worstWall_7 rfl (lv_at hl 3 rfl) ?_
  refine lv_aload_n hx hb dX7_worstWall_8 rfl (lv_at hl 0 rfl) ?_
  obtain ⟨r2, hc1, h⟩ := oc_bind h
  refine kro_i (wc := (WD16 cI cC cZ a_M a_M_text a_M_plan a_M_read a_M_readPage a_M_page a_M_trial a_M_book a_M_kept a_M_isKept a_M_seenPoint a_M_seenSum a_M_seenWas M_thrown M_textSize M_place M_doings M_seen M_seed M_bestSet M_text M_plan M_read M_readPage M_page M_trial M_book M_kept M_isKept M_seenPoint M_seenSum M_seenWas)) C0 hP hD hS [0, 1, 2, 3, 4, 5, 6, 7, 8, 9, 10, 11, 12] rfl (kV (n := 0) (As := []) (rest := [.int p3]) (wc := (WD16 cI cC cZ a_M a_M_text a_M_plan a_M_read a_M_readPage a_M_page a_M_trial a_M_book a_M_kept a_M_isKept a_M_seenPoint a_M_seenSum a_M_seenWas M_thrown M_textSize M_place M_doings M_seen M_seed M_bestSet M_text M_plan M_read M_readPage M_page M_trial M_book M_kept M_isKept M_seenPoint M_seenSum M_seenWas)) (C := RX7) C0 hP hD hS [0, 1, 2, 3, 4, 5, 6, 7, 8, 9, 10, 11, 12] rfl (by decide) (c_X7_walls l D cI cC cZ a_M a_M_text a_M_plan a_M_read a_M_readPage a_M_page a_M_trial a_M_book a_M_kept a_M_isKept a_M_seenPoint a_M_seenSum a_M_seenWas H.size M_thrown M_textSize M_place M_doings M_seen M_seed M_bestSet M_text M_plan M_read M_readPage M_page M_trial M_book M_kept M_isKept M_seenPoint M_seenSum M_seenWas  r2 hc1) kw_276 kw_273 kw_274 kw_275 kw_5 (by decide +kernel) (by decide) rfl rfl rfl hl.1 rfl (Nat.le_of_ble_eq_true rfl) ⟨Nat.zero_le _, Nat.zero_le _⟩ dX7_worstWall_9) (fun H locs hP hS => ?_)
  refine lv_icmp_ge (tgt := 84) hx hb dX7_worstWall_12 (by decide) (fun c3 => ?_) (fun c3 => ?_)
  · have h := oc_t c3 h
    refine lv_iload_n hx hb dX7_worstWall_84 rfl (lv_at hl 1 rfl) ?_
    cases h
    exact kret_i C0 hP hD hS rfl dX7_worstWall_85
  · have h := oc_f c3 h
    refine lv_aload_n hx hb dX7_worstWall_15 rfl (lv_at hl 0 rfl) ?_
    refine va_get (D := D) (ci := 7) (v := .ref a_M_page) (C := RX7) (T := TX7) (N := 19) hx hb hts inlX7 hown hK hP 0 rfl rfl 7 (by decide) (hts _ kw_88) (fun _ h9 => h9) rfl dX7_worstWall_16 ?_
    refine lv_iconst (v := (2 : Int32)) hx hb dX7_worstWall_19 (by decide) ?_
    refine va_iald hx hb hK hP 5 0 rfl rfl (show ¬ ((2 : Int32) < 0 ∨ 9 ≤ Int32.toNatClampNeg (2 : Int32)) by decide) dX7_worstWall_20 ?_
    refine lv_iload_n hx hb dX7_worstWall_21 rfl (lv_at hl 3 rfl) ?_
    obtain ⟨r5, hc4, h⟩ := oc_bind h
    refine kro_i (wc := (WD0 cI cC cZ)) C0 hP hD hS [] rfl (kS (n := 2) (As := [.int (M_page (Int32.toNatClampNeg (2 : Int32))), .int p3]) (rest := []) (wc := (WD0 cI cC cZ)) C0 hP hD hS [] rfl (by decide) (c_X7_has l D cI cC cZ  H.size  (M_page (Int32.toNatClampNeg (2 : Int32))) p3 r5 hc4) kw_371 kw_369 kw_370 kw_5 (by decide +kernel) (by decide) rfl hl.1 rfl (Nat.le_of_ble_eq_true rfl) ⟨Nat.zero_le _, Nat.zero_le _⟩ dX7_worstWall_22) (fun H locs hP hS => ?_)
    refine lv_if_eq (tgt := 78) hx hb dX7_worstWall_25 (by decide) (fun c6 => ?_) (fun c6 => ?_)
    · have h := oc_t c6 h
      obtain ⟨t7, e_t7⟩ : ∃ y : Int32, y = p3 + (1 : Int32) := ⟨_, rfl⟩
      have h := oc_nm e_t7 h
      refine lv_iinc (v := t7) (lv' := [(3, .int t7), (0, .ref a_M), (1, .int p1), (2, .int p2)]) hx hb dX7_worstWall_78 hl (k := 3) rfl (by rw [e_t7]; rfl) (by decide) rfl (fun ls hl => ?_)
      refine lv_goto (tgt := 7) hx hb dX7_worstWall_81 (by decide) ?_
      exact hk7 _ _ _ h _ _ hP hD hS _ (lv_sub hl [1, 2, 3, 0] rfl)
    · have h := oc_f c6 h
      refine lv_aload_n hx hb dX7_worstWall_28 rfl (lv_at hl 0 rfl) ?_
      refine lv_aload_n hx hb dX7_worstWall_29 rfl (lv_at hl 0 rfl) ?_
      refine va_get (D := D) (ci := 7) (v := .ref a_M_page) (C := RX7) (T := TX7) (N := 19) hx hb hts inlX7 hown hK hP 0 rfl rfl 7 (by decide) (hts _ kw_88) (fun _ h9 => h9) rfl dX7_worstWall_30 ?_
      obtain ⟨r9, hc8, h⟩ := oc_bind h
      refine kro_i (wc := (WD17 cI cC cZ a_M_page M_page)) C0 hP hD hS [5] rfl (kS (n := 1) (As := [.ref a_M_page]) (rest := [.ref a_M]) (wc := (WD17 cI cC cZ a_M_page M_page)) C0 hP hD hS [5] rfl (by decide) (c_X7_live l D cI cC cZ a_M_page H.size M_page  r9 hc8) kw_364 kw_362 kw_363 kw_5 (by decide +kernel) (by decide) rfl hl.1 rfl (Nat.le_of_ble_eq_true rfl) ⟨Nat.zero_le _, Nat.zero_le _⟩ dX7_worstWall_33) (fun H locs hP hS => ?_)
      refine lv_aload_n hx hb dX7_worstWall_36 rfl (lv_at hl 0 rfl) ?_
      refine va_get (D := D) (ci := 7) (v := .ref a_M_page) (C := RX7) (T := TX7) (N := 19) hx hb hts inlX7 hown hK hP 0 rfl rfl 7 (by decide) (hts _ kw_88) (fun _ h9 => h9) rfl dX7_worstWall_37 ?_
      refine lv_iconst (v := (2 : Int32)) hx hb dX7_worstWall_40 (by decide) ?_
      refine va_iald hx hb hK hP 5 0 rfl rfl (show ¬ ((2 : Int32) < 0 ∨ 9 ≤ Int32.toNatClampNeg (2 : Int32)) by decide) dX7_worstWall_41 ?_
      refine lv_iconst (v := (1 : Int32)) hx hb dX7_worstWall_42 (by decide) ?_
      refine lv_iload_n hx hb dX7_worstWall_43 rfl (lv_at hl 3 rfl) ?_
      refine lv_ishl hx hb dX7_worstWall_44 ?_
      refine lv_iconst (v := (-1 : Int32)) hx hb dX7_worstWall_45 (by decide) ?_
      refine lv_ixor hx hb dX7_worstWall_46 ?_
      refine lv_iand hx hb dX7_worstWall_47 ?_
      obtain ⟨r11, hc10, h⟩ := oc_bind h
      refine kro_i (wc := (WD16 cI cC cZ a_M a_M_text a_M_plan a_M_read a_M_readPage a_M_page a_M_trial a_M_book a_M_kept a_M_isKept a_M_seenPoint a_M_seenSum a_M_seenWas M_thrown M_textSize M_place M_doings M_seen M_seed M_bestSet M_text M_plan M_read M_readPage M_page M_trial M_book M_kept M_isKept M_seenPoint M_seenSum M_seenWas)) C0 hP hD hS [0, 1, 2, 3, 4, 5, 6, 7, 8, 9, 10, 11, 12] rfl (kV (n := 2) (As := [.int r9, .int ((M_page (Int32.toNatClampNeg (2 : Int32))) &&& (((1 : Int32) <<< (p3 &&& 31)) ^^^ (-1 : Int32)))]) (rest := []) (wc := (WD16 cI cC cZ a_M a_M_text a_M_plan a_M_read a_M_readPage a_M_page a_M_trial a_M_book a_M_kept a_M_isKept a_M_seenPoint a_M_seenSum a_M_seenWas M_thrown M_textSize M_place M_doings M_seen M_seed M_bestSet M_text M_plan M_read M_readPage M_page M_trial M_book M_kept M_isKept M_seenPoint M_seenSum M_seenWas)) (C := RX7) C0 hP hD hS [0, 1, 2, 3, 4, 5, 6, 7, 8, 9, 10, 11, 12] rfl (by decide) (c_X7_worthBy l D cI cC cZ a_M a_M_text a_M_plan a_M_read a_M_readPage a_M_page a_M_trial a_M_book a_M_kept a_M_isKept a_M_seenPoint a_M_seenSum a_M_seenWas H.size M_thrown M_textSize M_place M_doings M_seen M_seed M_bestSet M_text M_plan M_read M_readPage M_page M_trial M_book M_kept M_isKept M_seenPoint M_seenSum M_seenWas r9 ((M_page (Int32.toNatClampNeg (2 : Int32))) &&& (((1 : Int32) <<< (p3 &&& 31)) ^^^ (-1 : Int32))) r11 hc10) kw_601 kw_598 kw_599 kw_600 kw_5 (by decide +kernel) (by decide) rfl rfl rfl hl.1 rfl (Nat.le_of_ble_eq_true rfl) ⟨Nat.zero_le _, Nat.zero_le _⟩ dX7_worstWall_48) (fun H locs hP hS => ?_)
      refine lv_istore (lv' := [(4, .int r11), (0, .ref a_M), (1, .int p1), (2, .int p2), (3, .int p3)]) hx hb dX7_worstWall_51 hl (by decide) rfl (fun ls hl => ?_)
      refine lv_iload hx hb dX7_worstWall_53 (lv_at hl 0 rfl) ?_
      refine lv_iload_n hx hb dX7_worstWall_55 rfl (lv_at hl 3 rfl) ?_
      refine lv_icmp_le (tgt := 63) hx hb dX7_worstWall_56 (by decide) (fun c12 => ?_) (fun c12 => ?_)
      · have h := oc_t c12 h
        refine lv_iload_n hx hb dX7_worstWall_63 rfl (lv_at hl 2 rfl) ?_
        exact wk_X7_worstWall_64 C0 hk7 h hP hD hS (lv_sub hl [1, 3, 4, 0] rfl)
      · have h := oc_f c12 h
        refine lv_iload_n hx hb dX7_worstWall_59 rfl (lv_at hl 4 rfl) ?_
        refine lv_goto (tgt := 64) hx hb dX7_worstWall_60 (by decide) ?_
        exact wk_X7_worstWall_64 C0 hk7 h hP hD hS (lv_sub hl [1, 3, 4, 0] rfl)
noncomputable def lp_X7_worstWall_7  (M_plan : Nat → Int32) (M_page : Nat → Int32) (n : Nat) : Int32 → Int32 → Int32 → Option (Int32) := Nat.rec (motive := fun _ => Int32 → Int32 → Int32 → Option (Int32)) (fun _ _ _ => none) (fun _ ih => bk_X7_worstWall_7  ih M_plan M_page) n
set_option maxHeartbeats 4000000 in
set_option maxRecDepth 100000 in
theorem wl_X7_worstWall_7 {p : Program} {l : Launch} {e : Env} {s : State} {m : MethodId} {args : Array Value} {below : List Frame} {meth : Method} {c : Code} {D : va_G} {cI cC cZ : ClassId} {A : Nat → Prop} {a_M a_M_text a_M_plan a_M_read a_M_readPage a_M_page a_M_trial a_M_book a_M_kept a_M_isKept a_M_seenPoint a_M_seenSum a_M_seenWas : Nat} {M_thrown : Int32} {M_textSize : Int32} {M_place : Int32} {M_doings : Int32} {M_seen : Int32} {M_seed : Int64} {M_bestSet : Int32} {M_text : Nat → Int32} {M_plan : Nat → Int32} {M_read : Nat → Int32} {M_readPage : Nat → Int32} {M_page : Nat → Int32} {M_trial : Nat → Int32} {M_book : Nat → Int32} {M_kept : Nat → Int32} {M_isKept : Nat → Int32} {M_seenPoint : Nat → Int32} {M_seenSum : Nat → Int32} {M_seenWas : Nat → Int32}  {rr : Int32} (C0 : kC p s m args meth c D (kTY cI cC cZ) cX7_worstWall (some .int) 5 RX7 A)  : ∀ (n : Nat) (p1 : Int32) (p2 : Int32) (p3 : Int32), lp_X7_worstWall_7  M_plan M_page n p1 p2 p3 = some rr → ∀ (H : Heap) (locs : List Loc), va_P D vwCl (WD16 cI cC cZ a_M a_M_text a_M_plan a_M_read a_M_readPage a_M_page a_M_trial a_M_book a_M_kept a_M_isKept a_M_seenPoint a_M_seenSum a_M_seenWas M_thrown M_textSize M_place M_doings M_seen M_seed M_bestSet M_text M_plan M_read M_readPage M_page M_trial M_book M_kept M_isKept M_seenPoint M_seenSum M_seenWas) H → va_D A (WD16 cI cC cZ a_M a_M_text a_M_plan a_M_read a_M_readPage a_M_page a_M_trial a_M_book a_M_kept a_M_isKept a_M_seenPoint a_M_seenSum a_M_seenWas M_thrown M_textSize M_place M_doings M_seen M_seed M_bestSet M_text M_plan M_read M_readPage M_page M_trial M_book M_kept M_isKept M_seenPoint M_seenSum M_seenWas) → va_S A s.heap H locs → ∀ ls : Array Slot, lv_has ls 5 [(0, .ref a_M), (1, .int p1), (2, .int p2), (3, .int p3)] → W p l e rm_X7_worstWall s m args below meth c H locs 0 0 (MQ below (kQI D (kTY cI cC cZ) A rr (WD16 cI cC cZ a_M a_M_text a_M_plan a_M_read a_M_readPage a_M_page a_M_trial a_M_book a_M_kept a_M_isKept a_M_seenPoint a_M_seenSum a_M_seenWas M_thrown M_textSize M_place M_doings M_seen M_seed M_bestSet M_text M_plan M_read M_readPage M_page M_trial M_book M_kept M_isKept M_seenPoint M_seenSum M_seenWas)) args s 0 0 A) (F0 m 7 ls []) := by
  intro n
  induction n with
  | zero => intro p1 p2 p3 h; cases (show (none : Option (Int32)) = some _ from h)
  | succ n ih =>
    intro p1 p2 p3 h H locs hP hD hS ls hl
    exact wk_X7_worstWall_7 C0  (fun p1 p2 p3 h H locs hP hD hS ls hl => ih p1 p2 p3 h H locs hP hD hS ls hl) (show bk_X7_worstWall_7  (lp_X7_worstWall_7  M_plan M_page n) M_plan M_page p1 p2 p3 = some _ from h) hP hD hS hl
noncomputable def f_X7_worstWall (M_plan : Nat → Int32) (M_page : Nat → Int32)  : Option (Int32) := lp_X7_worstWall_7  M_plan M_page 1000 (-9 : Int32) (-1 : Int32) (0 : Int32)
set_option maxHeartbeats 4000000 in
set_option maxRecDepth 100000 in
theorem c_X7_worstWall (l : Launch) (D : va_G) (cI cC cZ : ClassId) (a_M a_M_text a_M_plan a_M_read a_M_readPage a_M_page a_M_trial a_M_book a_M_kept a_M_isKept a_M_seenPoint a_M_seenSum a_M_seenWas : Nat) (sz : Nat) (M_thrown : Int32) (M_textSize : Int32) (M_place : Int32) (M_doings : Int32) (M_seen : Int32) (M_seed : Int64) (M_bestSet : Int32) (M_text : Nat → Int32) (M_plan : Nat → Int32) (M_read : Nat → Int32) (M_readPage : Nat → Int32) (M_page : Nat → Int32) (M_trial : Nat → Int32) (M_book : Nat → Int32) (M_kept : Nat → Int32) (M_isKept : Nat → Int32) (M_seenPoint : Nat → Int32) (M_seenSum : Nat → Int32) (M_seenWas : Nat → Int32) (rr : Int32) (hf : f_X7_worstWall M_plan M_page = some rr) : kMet l yX7_worstWall cX7_worstWall 5 (some .int) rm_X7_worstWall D (kTY cI cC cZ) [.ref a_M] (WD16 cI cC cZ a_M a_M_text a_M_plan a_M_read a_M_readPage a_M_page a_M_trial a_M_book a_M_kept a_M_isKept a_M_seenPoint a_M_seenSum a_M_seenWas M_thrown M_textSize M_place M_doings M_seen M_seed M_bestSet M_text M_plan M_read M_readPage M_page M_trial M_book M_kept M_isKept M_seenPoint M_seenSum M_seenWas) sz (kQI D (kTY cI cC cZ) (va_A (WD16 cI cC cZ a_M a_M_text a_M_plan a_M_read a_M_readPage a_M_page a_M_trial a_M_book a_M_kept a_M_isKept a_M_seenPoint a_M_seenSum a_M_seenWas M_thrown M_textSize M_place M_doings M_seen M_seed M_bestSet M_text M_plan M_read M_readPage M_page M_trial M_book M_kept M_isKept M_seenPoint M_seenSum M_seenWas) sz) rr (WD16 cI cC cZ a_M a_M_text a_M_plan a_M_read a_M_readPage a_M_page a_M_trial a_M_book a_M_kept a_M_isKept a_M_seenPoint a_M_seenSum a_M_seenWas M_thrown M_textSize M_place M_doings M_seen M_seed M_bestSet M_text M_plan M_read M_readPage M_page M_trial M_book M_kept M_isKept M_seenPoint M_seenSum M_seenWas)) := by
  refine kEnter (lv := [(0, .ref a_M)]) (own := RX7) (by decide) rfl (Nat.le_of_ble_eq_true rfl) rfl ?_
  intro p e s m below meth c hsz C0 hP hD hS ls hl
  generalize (va_A (WD16 cI cC cZ a_M a_M_text a_M_plan a_M_read a_M_readPage a_M_page a_M_trial a_M_book a_M_kept a_M_isKept a_M_seenPoint a_M_seenSum a_M_seenWas M_thrown M_textSize M_place M_doings M_seen M_seed M_bestSet M_text M_plan M_read M_readPage M_page M_trial M_book M_kept M_isKept M_seenPoint M_seenSum M_seenWas) sz) = A at C0 hD hS ⊢
  clear hsz hS
  obtain ⟨H, hHs⟩ : ∃ H : Heap, H = s.heap := ⟨_, rfl⟩
  have hS : va_S A s.heap H [] := by rw [hHs]; exact va_S.rf
  rw [← hHs] at hP ⊢
  obtain ⟨hx, hb, hr, hml, hown, hts, hK, hN, hA, hlocks, hF⟩ := id C0
  have h := hf
  unfold f_X7_worstWall at h
  refine lv_bipush (v := (-9 : Int32)) hx hb dX7_worstWall_0 (by decide) ?_
  refine lv_istore_n (lv' := [(1, .int (-9 : Int32)), (0, .ref a_M)]) hx hb dX7_worstWall_2 rfl hl (by decide) rfl (fun ls hl => ?_)
  refine lv_iconst (v := (-1 : Int32)) hx hb dX7_worstWall_3 (by decide) ?_
  refine lv_istore_n (lv' := [(2, .int (-1 : Int32)), (1, .int (-9 : Int32)), (0, .ref a_M)]) hx hb dX7_worstWall_4 rfl hl (by decide) rfl (fun ls hl => ?_)
  refine lv_iconst (v := (0 : Int32)) hx hb dX7_worstWall_5 (by decide) ?_
  refine lv_istore_n (lv' := [(3, .int (0 : Int32)), (2, .int (-1 : Int32)), (1, .int (-9 : Int32)), (0, .ref a_M)]) hx hb dX7_worstWall_6 rfl hl (by decide) rfl (fun ls hl => ?_)
  exact wl_X7_worstWall_7 C0  _ _ _ _ h _ _ hP hD hS _ (lv_sub hl [3, 2, 1, 0] rfl)
abbrev rm_X7_bitsOf : Room := { frames := 0, cells := 0, slots := 0, locals := 0 }
noncomputable def bk_X7_bitsOf_112  (p5 : Int64) (p9 : Int32) : Option (Int32) := some ((p9 * (8388608 : Int32)) + (Int64.toInt32 (p5 - (8388608 : Int64))))
set_option maxHeartbeats 4000000 in
set_option maxRecDepth 100000 in
theorem wk_X7_bitsOf_112 {p : Program} {l : Launch} {e : Env} {s : State} {m : MethodId} {args : Array Value} {below : List Frame} {meth : Method} {c : Code} {D : va_G} {cI cC cZ : ClassId} {A : Nat → Prop} {p5 : Int64} {p9 : Int32}  {rr : Int32} (C0 : kC p s m args meth c D (kTY cI cC cZ) cX7_bitsOf (some .int) 10 RX7 A)  (h : bk_X7_bitsOf_112  p5 p9 = some rr) {H : Heap} {locs : List Loc} (hP : va_P D vwCl (WD0 cI cC cZ) H) (hD : va_D A (WD0 cI cC cZ)) (hS : va_S A s.heap H locs) {ls : Array Slot} (hl : lv_has ls 10 [(5, .long p5), (9, .int p9)]) : W p l e rm_X7_bitsOf s m args below meth c H locs 0 0 (MQ below (kQI D (kTY cI cC cZ) A rr (WD0 cI cC cZ)) args s 0 0 A) (F0 m 112 ls []) := by
  obtain ⟨hx, hb, hr, hml, hown, hts, hK, hN, hA, hlocks, hF⟩ := id C0
  unfold bk_X7_bitsOf_112 at h
  refine lv_iload hx hb dX7_bitsOf_112 (lv_at hl 1 rfl) ?_
  refine lv_ldc (v := (8388608 : Int32)) hx hb hown (hts _ kw_619) dX7_bitsOf_114 ?_
  refine lv_imul hx hb dX7_bitsOf_116 ?_
  refine lv_lload hx hb dX7_bitsOf_117 (lv_at hl 0 rfl) ?_
  refine lv_ldc2 (v := (8388608 : Int64)) hx hb hown (hts _ kw_618) dX7_bitsOf_119 ?_
  refine lv_lsub hx hb dX7_bitsOf_122 ?_
  refine lv_l2i hx hb dX7_bitsOf_123 rfl ?_
  refine lv_iadd hx hb dX7_bitsOf_124 ?_
  cases h
  exact kret_i C0 hP hD hS rfl dX7_bitsOf_125
noncomputable def bk_X7_bitsOf_86  (p2 : Int32) (s0 : Int64) (s1 : Int64) : Option (Int32) := nm_ (s1 + s0) (fun t1 => nm_ ((127 : Int32) - p2) (fun t2 => if (lg_cmp t1 (16777216 : Int64)) = 0 then (nm_ (t2 + (1 : Int32)) (fun t4 => bk_X7_bitsOf_112  (8388608 : Int64) t4)) else (bk_X7_bitsOf_112  t1 t2)))
set_option maxHeartbeats 4000000 in
set_option maxRecDepth 100000 in
theorem wk_X7_bitsOf_86 {p : Program} {l : Launch} {e : Env} {s : State} {m : MethodId} {args : Array Value} {below : List Frame} {meth : Method} {c : Code} {D : va_G} {cI cC cZ : ClassId} {A : Nat → Prop} {p2 : Int32} {s0 : Int64} {s1 : Int64}  {rr : Int32} (C0 : kC p s m args meth c D (kTY cI cC cZ) cX7_bitsOf (some .int) 10 RX7 A)  (h : bk_X7_bitsOf_86  p2 s0 s1 = some rr) {H : Heap} {locs : List Loc} (hP : va_P D vwCl (WD0 cI cC cZ) H) (hD : va_D A (WD0 cI cC cZ)) (hS : va_S A s.heap H locs) {ls : Array Slot} (hl : lv_has ls 10 [(2, .int p2)]) : W p l e rm_X7_bitsOf s m args below meth c H locs 0 0 (MQ below (kQI D (kTY cI cC cZ) A rr (WD0 cI cC cZ)) args s 0 0 A) (F0 m 86 ls [.long s0, .long s1]) := by
  obtain ⟨hx, hb, hr, hml, hown, hts, hK, hN, hA, hlocks, hF⟩ := id C0
  unfold bk_X7_bitsOf_86 at h
  refine lv_ladd hx hb dX7_bitsOf_86 ?_
  refine lv_topl (fun t1 e_t1 => ?_)
  have h := oc_nm e_t1 h
  refine lv_lstore (lv' := [(5, .long t1), (2, .int p2)]) hx hb dX7_bitsOf_87 hl (by decide) rfl (fun ls hl => ?_)
  refine lv_bipush (v := (127 : Int32)) hx hb dX7_bitsOf_89 (by decide) ?_
  refine lv_iload_n hx hb dX7_bitsOf_91 rfl (lv_at hl 1 rfl) ?_
  refine lv_isub hx hb dX7_bitsOf_92 ?_
  refine lv_topi (fun t2 e_t2 => ?_)
  have h := oc_nm e_t2 h
  refine lv_istore (lv' := [(9, .int t2), (5, .long t1), (2, .int p2)]) hx hb dX7_bitsOf_93 hl (by decide) rfl (fun ls hl => ?_)
  refine lv_lload hx hb dX7_bitsOf_95 (lv_at hl 1 rfl) ?_
  refine lv_ldc2 (v := (16777216 : Int64)) hx hb hown (hts _ kw_617) dX7_bitsOf_97 ?_
  refine W.lcmp hx hb dX7_bitsOf_100 ?_
  refine lv_if_ne (tgt := 112) hx hb dX7_bitsOf_101 (by decide) (fun c3 => ?_) (fun c3 => ?_)
  · have h := oc_f c3 h
    exact wk_X7_bitsOf_112 C0  h hP hD hS (lv_sub hl [1, 0] rfl)
  · have h := oc_t c3 h
    refine lv_ldc2 (v := (8388608 : Int64)) hx hb hown (hts _ kw_618) dX7_bitsOf_104 ?_
    refine lv_lstore (lv' := [(5, .long (8388608 : Int64)), (9, .int t2), (2, .int p2)]) hx hb dX7_bitsOf_107 hl (by decide) rfl (fun ls hl => ?_)
    obtain ⟨t4, e_t4⟩ : ∃ y : Int32, y = t2 + (1 : Int32) := ⟨_, rfl⟩
    have h := oc_nm e_t4 h
    refine lv_iinc (v := t4) (lv' := [(9, .int t4), (5, .long (8388608 : Int64)), (2, .int p2)]) hx hb dX7_bitsOf_109 hl (k := 1) rfl (by rw [e_t4]; rfl) (by decide) rfl (fun ls hl => ?_)
    exact wk_X7_bitsOf_112 C0  h hP hD hS (lv_sub hl [1, 0] rfl)
noncomputable def bk_X7_bitsOf_85  (p2 : Int32) (s0 : Int64) : Option (Int32) := bk_X7_bitsOf_86  p2 (0 : Int64) s0
set_option maxHeartbeats 4000000 in
set_option maxRecDepth 100000 in
theorem wk_X7_bitsOf_85 {p : Program} {l : Launch} {e : Env} {s : State} {m : MethodId} {args : Array Value} {below : List Frame} {meth : Method} {c : Code} {D : va_G} {cI cC cZ : ClassId} {A : Nat → Prop} {p2 : Int32} {s0 : Int64}  {rr : Int32} (C0 : kC p s m args meth c D (kTY cI cC cZ) cX7_bitsOf (some .int) 10 RX7 A)  (h : bk_X7_bitsOf_85  p2 s0 = some rr) {H : Heap} {locs : List Loc} (hP : va_P D vwCl (WD0 cI cC cZ) H) (hD : va_D A (WD0 cI cC cZ)) (hS : va_S A s.heap H locs) {ls : Array Slot} (hl : lv_has ls 10 [(2, .int p2)]) : W p l e rm_X7_bitsOf s m args below meth c H locs 0 0 (MQ below (kQI D (kTY cI cC cZ) A rr (WD0 cI cC cZ)) args s 0 0 A) (F0 m 85 ls [.long s0]) := by
  obtain ⟨hx, hb, hr, hml, hown, hts, hK, hN, hA, hlocks, hF⟩ := id C0
  unfold bk_X7_bitsOf_85 at h
  refine lv_lconst (v := (0 : Int64)) hx hb dX7_bitsOf_85 (by decide) ?_
  exact wk_X7_bitsOf_86 C0  h hP hD hS (lv_sub hl [0] rfl)
noncomputable def bk_X7_bitsOf_81  (p2 : Int32) (s0 : Int64) : Option (Int32) := bk_X7_bitsOf_86  p2 (1 : Int64) s0
set_option maxHeartbeats 4000000 in
set_option maxRecDepth 100000 in
theorem wk_X7_bitsOf_81 {p : Program} {l : Launch} {e : Env} {s : State} {m : MethodId} {args : Array Value} {below : List Frame} {meth : Method} {c : Code} {D : va_G} {cI cC cZ : ClassId} {A : Nat → Prop} {p2 : Int32} {s0 : Int64}  {rr : Int32} (C0 : kC p s m args meth c D (kTY cI cC cZ) cX7_bitsOf (some .int) 10 RX7 A)  (h : bk_X7_bitsOf_81  p2 s0 = some rr) {H : Heap} {locs : List Loc} (hP : va_P D vwCl (WD0 cI cC cZ) H) (hD : va_D A (WD0 cI cC cZ)) (hS : va_S A s.heap H locs) {ls : Array Slot} (hl : lv_has ls 10 [(2, .int p2)]) : W p l e rm_X7_bitsOf s m args below meth c H locs 0 0 (MQ below (kQI D (kTY cI cC cZ) A rr (WD0 cI cC cZ)) args s 0 0 A) (F0 m 81 ls [.long s0]) := by
  obtain ⟨hx, hb, hr, hml, hown, hts, hK, hN, hA, hlocks, hF⟩ := id C0
  unfold bk_X7_bitsOf_81 at h
  refine lv_lconst (v := (1 : Int64)) hx hb dX7_bitsOf_81 (by decide) ?_
  refine lv_goto (tgt := 86) hx hb dX7_bitsOf_82 (by decide) ?_
  exact wk_X7_bitsOf_86 C0  h hP hD hS (lv_sub hl [0] rfl)
noncomputable def bk_X7_bitsOf_24  (p0 : Int32) (p1 : Int32) (p2 : Int32) : Option (Int32) := nm_ ((Int32.toInt64 p0) <<< (Int32.toInt64 (p2 + (23 : Int32)) &&& 63)) (fun t1 => if (Int32.toInt64 p1) = 0 then none else (nm_ (t1 / (Int32.toInt64 p1)) (fun t3 => if (Int32.toInt64 p1) = 0 then none else (nm_ (t1 - t1 / (Int32.toInt64 p1) * (Int32.toInt64 p1)) (fun t5 => if 0 < (lg_cmp ((2 : Int64) * t5) (Int32.toInt64 p1)) then (bk_X7_bitsOf_81  p2 t3) else (if (lg_cmp ((2 : Int64) * t5) (Int32.toInt64 p1)) = 0 then (if (lg_cmp (t3 - t3 / (2 : Int64) * (2 : Int64)) (1 : Int64)) = 0 then (bk_X7_bitsOf_81  p2 t3) else (bk_X7_bitsOf_85  p2 t3)) else (bk_X7_bitsOf_85  p2 t3)))))))
set_option maxHeartbeats 4000000 in
set_option maxRecDepth 100000 in
theorem wk_X7_bitsOf_24 {p : Program} {l : Launch} {e : Env} {s : State} {m : MethodId} {args : Array Value} {below : List Frame} {meth : Method} {c : Code} {D : va_G} {cI cC cZ : ClassId} {A : Nat → Prop} {p0 : Int32} {p1 : Int32} {p2 : Int32}  {rr : Int32} (C0 : kC p s m args meth c D (kTY cI cC cZ) cX7_bitsOf (some .int) 10 RX7 A)  (h : bk_X7_bitsOf_24  p0 p1 p2 = some rr) {H : Heap} {locs : List Loc} (hP : va_P D vwCl (WD0 cI cC cZ) H) (hD : va_D A (WD0 cI cC cZ)) (hS : va_S A s.heap H locs) {ls : Array Slot} (hl : lv_has ls 10 [(0, .int p0), (1, .int p1), (2, .int p2)]) : W p l e rm_X7_bitsOf s m args below meth c H locs 0 0 (MQ below (kQI D (kTY cI cC cZ) A rr (WD0 cI cC cZ)) args s 0 0 A) (F0 m 24 ls []) := by
  obtain ⟨hx, hb, hr, hml, hown, hts, hK, hN, hA, hlocks, hF⟩ := id C0
  unfold bk_X7_bitsOf_24 at h
  refine lv_iload_n hx hb dX7_bitsOf_24 rfl (lv_at hl 0 rfl) ?_
  refine lv_i2l hx hb dX7_bitsOf_25 rfl ?_
  refine lv_iload_n hx hb dX7_bitsOf_26 rfl (lv_at hl 2 rfl) ?_
  refine lv_bipush (v := (23 : Int32)) hx hb dX7_bitsOf_27 (by decide) ?_
  refine lv_iadd hx hb dX7_bitsOf_29 ?_
  refine lv_lshl hx hb dX7_bitsOf_30 rfl ?_
  refine lv_topl (fun t1 e_t1 => ?_)
  have h := oc_nm e_t1 h
  refine lv_lstore_n (lv' := [(3, .long t1), (0, .int p0), (1, .int p1), (2, .int p2)]) hx hb dX7_bitsOf_31 rfl hl (by decide) rfl (fun ls hl => ?_)
  refine lv_lload_n hx hb dX7_bitsOf_32 rfl (lv_at hl 0 rfl) ?_
  refine lv_iload_n hx hb dX7_bitsOf_33 rfl (lv_at hl 2 rfl) ?_
  refine lv_i2l hx hb dX7_bitsOf_34 rfl ?_
  obtain ⟨hz2, h⟩ := oc_else h
  refine lv_ldiv hx hb dX7_bitsOf_35 hz2 ?_
  refine lv_topl (fun t3 e_t3 => ?_)
  have h := oc_nm e_t3 h
  refine lv_lstore (lv' := [(5, .long t3), (3, .long t1), (0, .int p0), (1, .int p1), (2, .int p2)]) hx hb dX7_bitsOf_36 hl (by decide) rfl (fun ls hl => ?_)
  refine lv_lload_n hx hb dX7_bitsOf_38 rfl (lv_at hl 1 rfl) ?_
  refine lv_iload_n hx hb dX7_bitsOf_39 rfl (lv_at hl 3 rfl) ?_
  refine lv_i2l hx hb dX7_bitsOf_40 rfl ?_
  obtain ⟨hz4, h⟩ := oc_else h
  refine lv_lrem hx hb dX7_bitsOf_41 hz4 ?_
  refine lv_topl (fun t5 e_t5 => ?_)
  have h := oc_nm e_t5 h
  refine lv_lstore (lv' := [(7, .long t5), (5, .long t3), (3, .long t1), (0, .int p0), (1, .int p1), (2, .int p2)]) hx hb dX7_bitsOf_42 hl (by decide) rfl (fun ls hl => ?_)
  refine lv_lload hx hb dX7_bitsOf_44 (lv_at hl 1 rfl) ?_
  refine lv_ldc2 (v := (2 : Int64)) hx hb hown (hts _ kw_537) dX7_bitsOf_46 ?_
  refine lv_lload hx hb dX7_bitsOf_49 (lv_at hl 0 rfl) ?_
  refine lv_lmul hx hb dX7_bitsOf_51 ?_
  refine lv_iload_n hx hb dX7_bitsOf_52 rfl (lv_at hl 4 rfl) ?_
  refine lv_i2l hx hb dX7_bitsOf_53 rfl ?_
  refine W.lcmp hx hb dX7_bitsOf_54 ?_
  refine lv_if_gt (tgt := 81) hx hb dX7_bitsOf_55 (by decide) (fun c6 => ?_) (fun c6 => ?_)
  · have h := oc_t c6 h
    exact wk_X7_bitsOf_81 C0  h hP hD hS (lv_sub hl [5] rfl)
  · have h := oc_f c6 h
    refine lv_ldc2 (v := (2 : Int64)) hx hb hown (hts _ kw_537) dX7_bitsOf_58 ?_
    refine lv_lload hx hb dX7_bitsOf_61 (lv_at hl 0 rfl) ?_
    refine lv_lmul hx hb dX7_bitsOf_63 ?_
    refine lv_iload_n hx hb dX7_bitsOf_64 rfl (lv_at hl 4 rfl) ?_
    refine lv_i2l hx hb dX7_bitsOf_65 rfl ?_
    refine W.lcmp hx hb dX7_bitsOf_66 ?_
    refine lv_if_ne (tgt := 85) hx hb dX7_bitsOf_67 (by decide) (fun c7 => ?_) (fun c7 => ?_)
    · have h := oc_f c7 h
      exact wk_X7_bitsOf_85 C0  h hP hD hS (lv_sub hl [5] rfl)
    · have h := oc_t c7 h
      refine lv_lload hx hb dX7_bitsOf_70 (lv_at hl 1 rfl) ?_
      refine lv_ldc2 (v := (2 : Int64)) hx hb hown (hts _ kw_537) dX7_bitsOf_72 ?_
      refine lv_lrem hx hb dX7_bitsOf_75 (by decide) ?_
      refine lv_lconst (v := (1 : Int64)) hx hb dX7_bitsOf_76 (by decide) ?_
      refine W.lcmp hx hb dX7_bitsOf_77 ?_
      refine lv_if_ne (tgt := 85) hx hb dX7_bitsOf_78 (by decide) (fun c8 => ?_) (fun c8 => ?_)
      · have h := oc_f c8 h
        exact wk_X7_bitsOf_85 C0  h hP hD hS (lv_sub hl [5] rfl)
      · have h := oc_t c8 h
        exact wk_X7_bitsOf_81 C0  h hP hD hS (lv_sub hl [5] rfl)
noncomputable def bk_X7_bitsOf_8 (k8 : Int32 → Option (Int32)) (p0 : Int32) (p1 : Int32) (p2 : Int32) : Option (Int32) := if 0 ≤ (lg_cmp ((Int32.toInt64 p0) <<< (Int32.toInt64 p2 &&& 63)) (Int32.toInt64 p1)) then (bk_X7_bitsOf_24  p0 p1 p2) else (nm_ (p2 + (1 : Int32)) (fun t2 => k8 t2))
set_option maxHeartbeats 4000000 in
set_option maxRecDepth 100000 in
theorem wk_X7_bitsOf_8 {p : Program} {l : Launch} {e : Env} {s : State} {m : MethodId} {args : Array Value} {below : List Frame} {meth : Method} {c : Code} {D : va_G} {cI cC cZ : ClassId} {A : Nat → Prop} {p0 : Int32} {p1 : Int32} {p2 : Int32} {k8 : Int32 → Option (Int32)} {rr : Int32} (C0 : kC p s m args meth c D (kTY cI cC cZ) cX7_bitsOf (some .int) 10 RX7 A) (hk8 : ∀ (p2_k : Int32), k8 p2_k = some rr → ∀ (H : Heap) (locs : List Loc), va_P D vwCl (WD0 cI cC cZ) H → va_D A (WD0 cI cC cZ) → va_S A s.heap H locs → ∀ ls : Array Slot, lv_has ls 10 [(0, .int p0), (1, .int p1), (2, .int p2_k)] → W p l e rm_X7_bitsOf s m args below meth c H locs 0 0 (MQ below (kQI D (kTY cI cC cZ) A rr (WD0 cI cC cZ)) args s 0 0 A) (F0 m 8 ls [])) (h : bk_X7_bitsOf_8 k8 p0 p1 p2 = some rr) {H : Heap} {locs : List Loc} (hP : va_P D vwCl (WD0 cI cC cZ) H) (hD : va_D A (WD0 cI cC cZ)) (hS : va_S A s.heap H locs) {ls : Array Slot} (hl : lv_has ls 10 [(0, .int p0), (1, .int p1), (2, .int p2)]) : W p l e rm_X7_bitsOf s m args below meth c H locs 0 0 (MQ below (kQI D (kTY cI cC cZ) A rr (WD0 cI cC cZ)) args s 0 0 A) (F0 m 8 ls []) := by
  obtain ⟨hx, hb, hr, hml, hown, hts, hK, hN, hA, hlocks, hF⟩ := id C0
  unfold bk_X7_bitsOf_8 at h
  refine lv_iload_n hx hb dX7_bitsOf_8 rfl (lv_at hl 0 rfl) ?_
  refine lv_i2l hx hb dX7_bitsOf_9 rfl ?_
  refine lv_iload_n hx hb dX7_bitsOf_10 rfl (lv_at hl 2 rfl) ?_
  refine lv_lshl hx hb dX7_bitsOf_11 rfl ?_
  refine lv_iload_n hx hb dX7_bitsOf_12 rfl (lv_at hl 1 rfl) ?_
  refine lv_i2l hx hb dX7_bitsOf_13 rfl ?_
  refine W.lcmp hx hb dX7_bitsOf_14 ?_
  refine lv_if_ge (tgt := 24) hx hb dX7_bitsOf_15 (by decide) (fun c1 => ?_) (fun c1 => ?_)
  · have h := oc_t c1 h
    exact wk_X7_bitsOf_24 C0  h hP hD hS (lv_sub hl [0, 1, 2] rfl)
  · have h := oc_f c1 h
    obtain ⟨t2, e_t2⟩ : ∃ y : Int32, y = p2 + (1 : Int32) := ⟨_, rfl⟩
    have h := oc_nm e_t2 h
    refine lv_iinc (v := t2) (lv' := [(2, .int t2), (0, .int p0), (1, .int p1)]) hx hb dX7_bitsOf_18 hl (k := 2) rfl (by rw [e_t2]; rfl) (by decide) rfl (fun ls hl => ?_)
    refine lv_goto (tgt := 8) hx hb dX7_bitsOf_21 (by decide) ?_
    exact hk8 _ h _ _ hP hD hS _ (lv_sub hl [1, 2, 0] rfl)
noncomputable def lp_X7_bitsOf_8  (p0 : Int32) (p1 : Int32) (n : Nat) : Int32 → Option (Int32) := Nat.rec (motive := fun _ => Int32 → Option (Int32)) (fun _ => none) (fun _ ih => bk_X7_bitsOf_8  ih p0 p1) n
set_option maxHeartbeats 4000000 in
set_option maxRecDepth 100000 in
theorem wl_X7_bitsOf_8 {p : Program} {l : Launch} {e : Env} {s : State} {m : MethodId} {args : Array Value} {below : List Frame} {meth : Method} {c : Code} {D : va_G} {cI cC cZ : ClassId} {A : Nat → Prop} {p0 : Int32} {p1 : Int32}  {rr : Int32} (C0 : kC p s m args meth c D (kTY cI cC cZ) cX7_bitsOf (some .int) 10 RX7 A)  : ∀ (n : Nat) (p2 : Int32), lp_X7_bitsOf_8  p0 p1 n p2 = some rr → ∀ (H : Heap) (locs : List Loc), va_P D vwCl (WD0 cI cC cZ) H → va_D A (WD0 cI cC cZ) → va_S A s.heap H locs → ∀ ls : Array Slot, lv_has ls 10 [(0, .int p0), (1, .int p1), (2, .int p2)] → W p l e rm_X7_bitsOf s m args below meth c H locs 0 0 (MQ below (kQI D (kTY cI cC cZ) A rr (WD0 cI cC cZ)) args s 0 0 A) (F0 m 8 ls []) := by
  intro n
  induction n with
  | zero => intro p2 h; cases (show (none : Option (Int32)) = some _ from h)
  | succ n ih =>
    intro p2 h H locs hP hD hS ls hl
    exact wk_X7_bitsOf_8 C0  (fun p2 h H locs hP hD hS ls hl => ih p2 h H locs hP hD hS ls hl) (show bk_X7_bitsOf_8  (lp_X7_bitsOf_8  p0 p1 n) p0 p1 p2 = some _ from h) hP hD hS hl
noncomputable def f_X7_bitsOf  (p0 : Int32) (p1 : Int32) : Option (Int32) := if p0 = 0 then (some (0 : Int32)) else (lp_X7_bitsOf_8  p0 p1 1000 (0 : Int32))
set_option maxHeartbeats 4000000 in
set_option maxRecDepth 100000 in
theorem c_X7_bitsOf (l : Launch) (D : va_G) (cI cC cZ : ClassId) (sz : Nat) (p0 : Int32) (p1 : Int32) (rr : Int32) (hf : f_X7_bitsOf p0 p1 = some rr) : kMet l yX7_bitsOf cX7_bitsOf 10 (some .int) rm_X7_bitsOf D (kTY cI cC cZ) [.int p0, .int p1] (WD0 cI cC cZ) sz (kQI D (kTY cI cC cZ) (va_A (WD0 cI cC cZ) sz) rr (WD0 cI cC cZ)) := by
  refine kEnter (lv := [(0, .int p0), (1, .int p1)]) (own := RX7) (by decide) rfl (Nat.le_of_ble_eq_true rfl) rfl ?_
  intro p e s m below meth c hsz C0 hP hD hS ls hl
  generalize (va_A (WD0 cI cC cZ) sz) = A at C0 hD hS ⊢
  clear hsz hS
  obtain ⟨H, hHs⟩ : ∃ H : Heap, H = s.heap := ⟨_, rfl⟩
  have hS : va_S A s.heap H [] := by rw [hHs]; exact va_S.rf
  rw [← hHs] at hP ⊢
  obtain ⟨hx, hb, hr, hml, hown, hts, hK, hN, hA, hlocks, hF⟩ := id C0
  have h := hf
  unfold f_X7_bitsOf at h
  refine lv_iload_n hx hb dX7_bitsOf_0 rfl (lv_at hl 0 rfl) ?_
  refine lv_if_ne (tgt := 6) hx hb dX7_bitsOf_1 (by decide) (fun c1 => ?_) (fun c1 => ?_)
  · have h := oc_f c1 h
    refine lv_iconst (v := (0 : Int32)) hx hb dX7_bitsOf_6 (by decide) ?_
    refine lv_istore_n (lv' := [(2, .int (0 : Int32)), (0, .int p0), (1, .int p1)]) hx hb dX7_bitsOf_7 rfl hl (by decide) rfl (fun ls hl => ?_)
    exact wl_X7_bitsOf_8 C0  _ _ h _ _ hP hD hS _ (lv_sub hl [1, 2, 0] rfl)
  · have h := oc_t c1 h
    refine lv_iconst (v := (0 : Int32)) hx hb dX7_bitsOf_4 (by decide) ?_
    cases h
    exact kret_i C0 hP hD hS rfl dX7_bitsOf_5
abbrev rm_X7_even : Room := { frames := 7, cells := 0, slots := 0, locals := 181 }
noncomputable def bk_X7_even_71  (p1 : Int32) (p2 : Int32) : Option (Int32) := if p2 = 0 then (some (-9 : Int32)) else ((f_X7_bitsOf p1 p2).bind (fun r3 => some r3))
set_option maxHeartbeats 4000000 in
set_option maxRecDepth 100000 in
theorem wk_X7_even_71 {p : Program} {l : Launch} {e : Env} {s : State} {m : MethodId} {args : Array Value} {below : List Frame} {meth : Method} {c : Code} {D : va_G} {cI cC cZ : ClassId} {A : Nat → Prop} {a_M a_M_text a_M_plan a_M_read a_M_readPage a_M_page a_M_trial a_M_book a_M_kept a_M_isKept a_M_seenPoint a_M_seenSum a_M_seenWas : Nat} {M_thrown : Int32} {M_textSize : Int32} {M_place : Int32} {M_doings : Int32} {M_seen : Int32} {M_seed : Int64} {M_bestSet : Int32} {M_text : Nat → Int32} {M_plan : Nat → Int32} {M_read : Nat → Int32} {M_readPage : Nat → Int32} {M_page : Nat → Int32} {M_trial : Nat → Int32} {M_book : Nat → Int32} {M_kept : Nat → Int32} {M_isKept : Nat → Int32} {M_seenPoint : Nat → Int32} {M_seenSum : Nat → Int32} {M_seenWas : Nat → Int32} {p1 : Int32} {p2 : Int32}  {rr : Int32} (C0 : kC p s m args meth c D (kTY cI cC cZ) cX7_even (some .int) 5 RX7 A)  (h : bk_X7_even_71  p1 p2 = some rr) {H : Heap} {locs : List Loc} (hP : va_P D vwCl (WD16 cI cC cZ a_M a_M_text a_M_plan a_M_read a_M_readPage a_M_page a_M_trial a_M_book a_M_kept a_M_isKept a_M_seenPoint a_M_seenSum a_M_seenWas M_thrown M_textSize M_place M_doings M_seen M_seed M_bestSet M_text M_plan M_read M_readPage M_page M_trial M_book M_kept M_isKept M_seenPoint M_seenSum M_seenWas) H) (hD : va_D A (WD16 cI cC cZ a_M a_M_text a_M_plan a_M_read a_M_readPage a_M_page a_M_trial a_M_book a_M_kept a_M_isKept a_M_seenPoint a_M_seenSum a_M_seenWas M_thrown M_textSize M_place M_doings M_seen M_seed M_bestSet M_text M_plan M_read M_readPage M_page M_trial M_book M_kept M_isKept M_seenPoint M_seenSum M_seenWas)) (hS : va_S A s.heap H locs) {ls : Array Slot} (hl : lv_has ls 5 [(1, .int p1), (2, .int p2)]) : W p l e rm_X7_even s m args below meth c H locs 0 0 (MQ below (kQI D (kTY cI cC cZ) A rr (WD16 cI cC cZ a_M a_M_text a_M_plan a_M_read a_M_readPage a_M_page a_M_trial a_M_book a_M_kept a_M_isKept a_M_seenPoint a_M_seenSum a_M_seenWas M_thrown M_textSize M_place M_doings M_seen M_seed M_bestSet M_text M_plan M_read M_readPage M_page M_trial M_book M_kept M_isKept M_seenPoint M_seenSum M_seenWas)) args s 0 0 A) (F0 m 71 ls []) := by
  obtain ⟨hx, hb, hr, hml, hown, hts, hK, hN, hA, hlocks, hF⟩ := id C0
  unfold bk_X7_even_71 at h
  refine lv_iload_n hx hb dX7_even_71 rfl (lv_at hl 1 rfl) ?_
  refine lv_if_ne (tgt := 80) hx hb dX7_even_72 (by decide) (fun c1 => ?_) (fun c1 => ?_)
  · have h := oc_f c1 h
    refine lv_iload_n hx hb dX7_even_80 rfl (lv_at hl 0 rfl) ?_
    refine lv_iload_n hx hb dX7_even_81 rfl (lv_at hl 1 rfl) ?_
    obtain ⟨r3, hc2, h⟩ := oc_bind h
    refine kro_i (wc := (WD0 cI cC cZ)) C0 hP hD hS [] rfl (kS (n := 2) (As := [.int p1, .int p2]) (rest := []) (wc := (WD0 cI cC cZ)) C0 hP hD hS [] rfl (by decide) (c_X7_bitsOf l D cI cC cZ  H.size  p1 p2 r3 hc2) kw_616 kw_614 kw_615 kw_5 (by decide +kernel) (by decide) rfl hl.1 rfl (Nat.le_of_ble_eq_true rfl) ⟨Nat.zero_le _, Nat.zero_le _⟩ dX7_even_82) (fun H locs hP hS => ?_)
    cases h
    exact kret_i C0 hP hD hS rfl dX7_even_85
  · have h := oc_t c1 h
    refine lv_bipush (v := (-9 : Int32)) hx hb dX7_even_75 (by decide) ?_
    refine lv_goto (tgt := 85) hx hb dX7_even_77 (by decide) ?_
    cases h
    exact kret_i C0 hP hD hS rfl dX7_even_85
noncomputable def bk_X7_even_51 (k7 : Int32 → Int32 → Int32 → Option (Int32)) (M_plan : Nat → Int32) (M_page : Nat → Int32) (p2 : Int32) (p3 : Int32) (p4 : Int32) (s0 : Int32) : Option (Int32) := if p4 ≤ p2 then (nm_ (p3 + (1 : Int32)) (fun t2 => k7 s0 p2 t2)) else (nm_ (p3 + (1 : Int32)) (fun t3 => k7 s0 p4 t3))
set_option maxHeartbeats 4000000 in
set_option maxRecDepth 100000 in
theorem wk_X7_even_51 {p : Program} {l : Launch} {e : Env} {s : State} {m : MethodId} {args : Array Value} {below : List Frame} {meth : Method} {c : Code} {D : va_G} {cI cC cZ : ClassId} {A : Nat → Prop} {a_M a_M_text a_M_plan a_M_read a_M_readPage a_M_page a_M_trial a_M_book a_M_kept a_M_isKept a_M_seenPoint a_M_seenSum a_M_seenWas : Nat} {M_thrown : Int32} {M_textSize : Int32} {M_place : Int32} {M_doings : Int32} {M_seen : Int32} {M_seed : Int64} {M_bestSet : Int32} {M_text : Nat → Int32} {M_plan : Nat → Int32} {M_read : Nat → Int32} {M_readPage : Nat → Int32} {M_page : Nat → Int32} {M_trial : Nat → Int32} {M_book : Nat → Int32} {M_kept : Nat → Int32} {M_isKept : Nat → Int32} {M_seenPoint : Nat → Int32} {M_seenSum : Nat → Int32} {M_seenWas : Nat → Int32} {p2 : Int32} {p3 : Int32} {p4 : Int32} {s0 : Int32} {k7 : Int32 → Int32 → Int32 → Option (Int32)} {rr : Int32} (C0 : kC p s m args meth c D (kTY cI cC cZ) cX7_even (some .int) 5 RX7 A) (hk7 : ∀ (p1_k : Int32) (p2_k : Int32) (p3_k : Int32), k7 p1_k p2_k p3_k = some rr → ∀ (H : Heap) (locs : List Loc), va_P D vwCl (WD16 cI cC cZ a_M a_M_text a_M_plan a_M_read a_M_readPage a_M_page a_M_trial a_M_book a_M_kept a_M_isKept a_M_seenPoint a_M_seenSum a_M_seenWas M_thrown M_textSize M_place M_doings M_seen M_seed M_bestSet M_text M_plan M_read M_readPage M_page M_trial M_book M_kept M_isKept M_seenPoint M_seenSum M_seenWas) H → va_D A (WD16 cI cC cZ a_M a_M_text a_M_plan a_M_read a_M_readPage a_M_page a_M_trial a_M_book a_M_kept a_M_isKept a_M_seenPoint a_M_seenSum a_M_seenWas M_thrown M_textSize M_place M_doings M_seen M_seed M_bestSet M_text M_plan M_read M_readPage M_page M_trial M_book M_kept M_isKept M_seenPoint M_seenSum M_seenWas) → va_S A s.heap H locs → ∀ ls : Array Slot, lv_has ls 5 [(0, .ref a_M), (1, .int p1_k), (2, .int p2_k), (3, .int p3_k)] → W p l e rm_X7_even s m args below meth c H locs 0 0 (MQ below (kQI D (kTY cI cC cZ) A rr (WD16 cI cC cZ a_M a_M_text a_M_plan a_M_read a_M_readPage a_M_page a_M_trial a_M_book a_M_kept a_M_isKept a_M_seenPoint a_M_seenSum a_M_seenWas M_thrown M_textSize M_place M_doings M_seen M_seed M_bestSet M_text M_plan M_read M_readPage M_page M_trial M_book M_kept M_isKept M_seenPoint M_seenSum M_seenWas)) args s 0 0 A) (F0 m 7 ls [])) (h : bk_X7_even_51 k7 M_plan M_page p2 p3 p4 s0 = some rr) {H : Heap} {locs : List Loc} (hP : va_P D vwCl (WD16 cI cC cZ a_M a_M_text a_M_plan a_M_read a_M_readPage a_M_page a_M_trial a_M_book a_M_kept a_M_isKept a_M_seenPoint a_M_seenSum a_M_seenWas M_thrown M_textSize M_place M_doings M_seen M_seed M_bestSet M_text M_plan M_read M_readPage M_page M_trial M_book M_kept M_isKept M_seenPoint M_seenSum M_seenWas) H) (hD : va_D A (WD16 cI cC cZ a_M a_M_text a_M_plan a_M_read a_M_readPage a_M_page a_M_trial a_M_book a_M_kept a_M_isKept a_M_seenPoint a_M_seenSum a_M_seenWas M_thrown M_textSize M_place M_doings M_seen M_seed M_bestSet M_text M_plan M_read M_readPage M_page M_trial M_book M_kept M_isKept M_seenPoint M_seenSum M_seenWas)) (hS : va_S A s.heap H locs) {ls : Array Slot} (hl : lv_has ls 5 [(0, .ref a_M), (2, .int p2), (3, .int p3), (4, .int p4)]) : W p l e rm_X7_even s m args below meth c H locs 0 0 (MQ below (kQI D (kTY cI cC cZ) A rr (WD16 cI cC cZ a_M a_M_text a_M_plan a_M_read a_M_readPage a_M_page a_M_trial a_M_book a_M_kept a_M_isKept a_M_seenPoint a_M_seenSum a_M_seenWas M_thrown M_textSize M_place M_doings M_seen M_seed M_bestSet M_text M_plan M_read M_readPage M_page M_trial M_book M_kept M_isKept M_seenPoint M_seenSum M_seenWas)) args s 0 0 A) (F0 m 51 ls [.int s0]) := by
  obtain ⟨hx, hb, hr, hml, hown, hts, hK, hN, hA, hlocks, hF⟩ := id C0
  unfold bk_X7_even_51 at h
  refine lv_istore_n (lv' := [(1, .int s0), (0, .ref a_M), (2, .int p2), (3, .int p3), (4, .int p4)]) hx hb dX7_even_51 rfl hl (by decide) rfl (fun ls hl => ?_)
  refine lv_iload hx hb dX7_even_52 (lv_at hl 4 rfl) ?_
  refine lv_iload_n hx hb dX7_even_54 rfl (lv_at hl 2 rfl) ?_
  refine lv_icmp_le (tgt := 63) hx hb dX7_even_55 (by decide) (fun c1 => ?_) (fun c1 => ?_)
  · have h := oc_t c1 h
    refine lv_iload_n hx hb dX7_even_63 rfl (lv_at hl 2 rfl) ?_
    refine lv_istore_n (lv' := [(2, .int p2), (1, .int s0), (0, .ref a_M), (3, .int p3), (4, .int p4)]) hx hb dX7_even_64 rfl hl (by decide) rfl (fun ls hl => ?_)
    obtain ⟨t2, e_t2⟩ : ∃ y : Int32, y = p3 + (1 : Int32) := ⟨_, rfl⟩
    have h := oc_nm e_t2 h
    refine lv_iinc (v := t2) (lv' := [(3, .int t2), (2, .int p2), (1, .int s0), (0, .ref a_M), (4, .int p4)]) hx hb dX7_even_65 hl (k := 3) rfl (by rw [e_t2]; rfl) (by decide) rfl (fun ls hl => ?_)
    refine lv_goto (tgt := 7) hx hb dX7_even_68 (by decide) ?_
    exact hk7 _ _ _ h _ _ hP hD hS _ (lv_sub hl [3, 2, 1, 0] rfl)
  · have h := oc_f c1 h
    refine lv_iload hx hb dX7_even_58 (lv_at hl 4 rfl) ?_
    refine lv_goto (tgt := 64) hx hb dX7_even_60 (by decide) ?_
    refine lv_istore_n (lv' := [(2, .int p4), (1, .int s0), (0, .ref a_M), (3, .int p3), (4, .int p4)]) hx hb dX7_even_64 rfl hl (by decide) rfl (fun ls hl => ?_)
    obtain ⟨t3, e_t3⟩ : ∃ y : Int32, y = p3 + (1 : Int32) := ⟨_, rfl⟩
    have h := oc_nm e_t3 h
    refine lv_iinc (v := t3) (lv' := [(3, .int t3), (2, .int p4), (1, .int s0), (0, .ref a_M), (4, .int p4)]) hx hb dX7_even_65 hl (k := 3) rfl (by rw [e_t3]; rfl) (by decide) rfl (fun ls hl => ?_)
    refine lv_goto (tgt := 7) hx hb dX7_even_68 (by decide) ?_
    exact hk7 _ _ _ h _ _ hP hD hS _ (lv_sub hl [3, 2, 1, 0] rfl)
noncomputable def bk_X7_even_45 (k7 : Int32 → Int32 → Int32 → Option (Int32)) (M_plan : Nat → Int32) (M_page : Nat → Int32) (p2 : Int32) (p3 : Int32) (p4 : Int32) : Option (Int32) := bk_X7_even_51 k7 M_plan M_page p2 p3 p4 p4
set_option maxHeartbeats 4000000 in
set_option maxRecDepth 100000 in
theorem wk_X7_even_45 {p : Program} {l : Launch} {e : Env} {s : State} {m : MethodId} {args : Array Value} {below : List Frame} {meth : Method} {c : Code} {D : va_G} {cI cC cZ : ClassId} {A : Nat → Prop} {a_M a_M_text a_M_plan a_M_read a_M_readPage a_M_page a_M_trial a_M_book a_M_kept a_M_isKept a_M_seenPoint a_M_seenSum a_M_seenWas : Nat} {M_thrown : Int32} {M_textSize : Int32} {M_place : Int32} {M_doings : Int32} {M_seen : Int32} {M_seed : Int64} {M_bestSet : Int32} {M_text : Nat → Int32} {M_plan : Nat → Int32} {M_read : Nat → Int32} {M_readPage : Nat → Int32} {M_page : Nat → Int32} {M_trial : Nat → Int32} {M_book : Nat → Int32} {M_kept : Nat → Int32} {M_isKept : Nat → Int32} {M_seenPoint : Nat → Int32} {M_seenSum : Nat → Int32} {M_seenWas : Nat → Int32} {p2 : Int32} {p3 : Int32} {p4 : Int32} {k7 : Int32 → Int32 → Int32 → Option (Int32)} {rr : Int32} (C0 : kC p s m args meth c D (kTY cI cC cZ) cX7_even (some .int) 5 RX7 A) (hk7 : ∀ (p1_k : Int32) (p2_k : Int32) (p3_k : Int32), k7 p1_k p2_k p3_k = some rr → ∀ (H : Heap) (locs : List Loc), va_P D vwCl (WD16 cI cC cZ a_M a_M_text a_M_plan a_M_read a_M_readPage a_M_page a_M_trial a_M_book a_M_kept a_M_isKept a_M_seenPoint a_M_seenSum a_M_seenWas M_thrown M_textSize M_place M_doings M_seen M_seed M_bestSet M_text M_plan M_read M_readPage M_page M_trial M_book M_kept M_isKept M_seenPoint M_seenSum M_seenWas) H → va_D A (WD16 cI cC cZ a_M a_M_text a_M_plan a_M_read a_M_readPage a_M_page a_M_trial a_M_book a_M_kept a_M_isKept a_M_seenPoint a_M_seenSum a_M_seenWas M_thrown M_textSize M_place M_doings M_seen M_seed M_bestSet M_text M_plan M_read M_readPage M_page M_trial M_book M_kept M_isKept M_seenPoint M_seenSum M_seenWas) → va_S A s.heap H locs → ∀ ls : Array Slot, lv_has ls 5 [(0, .ref a_M), (1, .int p1_k), (2, .int p2_k), (3, .int p3_k)] → W p l e rm_X7_even s m args below meth c H locs 0 0 (MQ below (kQI D (kTY cI cC cZ) A rr (WD16 cI cC cZ a_M a_M_text a_M_plan a_M_read a_M_readPage a_M_page a_M_trial a_M_book a_M_kept a_M_isKept a_M_seenPoint a_M_seenSum a_M_seenWas M_thrown M_textSize M_place M_doings M_seen M_seed M_bestSet M_text M_plan M_read M_readPage M_page M_trial M_book M_kept M_isKept M_seenPoint M_seenSum M_seenWas)) args s 0 0 A) (F0 m 7 ls [])) (h : bk_X7_even_45 k7 M_plan M_page p2 p3 p4 = some rr) {H : Heap} {locs : List Loc} (hP : va_P D vwCl (WD16 cI cC cZ a_M a_M_text a_M_plan a_M_read a_M_readPage a_M_page a_M_trial a_M_book a_M_kept a_M_isKept a_M_seenPoint a_M_seenSum a_M_seenWas M_thrown M_textSize M_place M_doings M_seen M_seed M_bestSet M_text M_plan M_read M_readPage M_page M_trial M_book M_kept M_isKept M_seenPoint M_seenSum M_seenWas) H) (hD : va_D A (WD16 cI cC cZ a_M a_M_text a_M_plan a_M_read a_M_readPage a_M_page a_M_trial a_M_book a_M_kept a_M_isKept a_M_seenPoint a_M_seenSum a_M_seenWas M_thrown M_textSize M_place M_doings M_seen M_seed M_bestSet M_text M_plan M_read M_readPage M_page M_trial M_book M_kept M_isKept M_seenPoint M_seenSum M_seenWas)) (hS : va_S A s.heap H locs) {ls : Array Slot} (hl : lv_has ls 5 [(0, .ref a_M), (2, .int p2), (3, .int p3), (4, .int p4)]) : W p l e rm_X7_even s m args below meth c H locs 0 0 (MQ below (kQI D (kTY cI cC cZ) A rr (WD16 cI cC cZ a_M a_M_text a_M_plan a_M_read a_M_readPage a_M_page a_M_trial a_M_book a_M_kept a_M_isKept a_M_seenPoint a_M_seenSum a_M_seenWas M_thrown M_textSize M_place M_doings M_seen M_seed M_bestSet M_text M_plan M_read M_readPage M_page M_trial M_book M_kept M_isKept M_seenPoint M_seenSum M_seenWas)) args s 0 0 A) (F0 m 45 ls []) := by
  obtain ⟨hx, hb, hr, hml, hown, hts, hK, hN, hA, hlocks, hF⟩ := id C0
  unfold bk_X7_even_45 at h
  refine lv_iload hx hb dX7_even_45 (lv_at hl 3 rfl) ?_
  refine lv_goto (tgt := 51) hx hb dX7_even_47 (by decide) ?_
  exact wk_X7_even_51 C0 hk7 h hP hD hS (lv_sub hl [0, 1, 2, 3] rfl)
noncomputable def bk_X7_even_7 (k7 : Int32 → Int32 → Int32 → Option (Int32)) (M_plan : Nat → Int32) (M_page : Nat → Int32) (p1 : Int32) (p2 : Int32) (p3 : Int32) : Option (Int32) := (f_X7_points M_plan).bind (fun r2 => if r2 ≤ p3 then (bk_X7_even_71  p1 p2) else ((f_X7_live M_page).bind (fun r5 => (f_X7_sumBy M_plan p3 r5 (M_page (Int32.toNatClampNeg (2 : Int32)))).bind (fun r7 => if p3 = 0 then (bk_X7_even_45 k7 M_plan M_page p2 p3 r7) else (if p1 ≤ r7 then (bk_X7_even_51 k7 M_plan M_page p2 p3 r7 p1) else (bk_X7_even_45 k7 M_plan M_page p2 p3 r7))))))
set_option maxHeartbeats 4000000 in
set_option maxRecDepth 100000 in
theorem wk_X7_even_7 {p : Program} {l : Launch} {e : Env} {s : State} {m : MethodId} {args : Array Value} {below : List Frame} {meth : Method} {c : Code} {D : va_G} {cI cC cZ : ClassId} {A : Nat → Prop} {a_M a_M_text a_M_plan a_M_read a_M_readPage a_M_page a_M_trial a_M_book a_M_kept a_M_isKept a_M_seenPoint a_M_seenSum a_M_seenWas : Nat} {M_thrown : Int32} {M_textSize : Int32} {M_place : Int32} {M_doings : Int32} {M_seen : Int32} {M_seed : Int64} {M_bestSet : Int32} {M_text : Nat → Int32} {M_plan : Nat → Int32} {M_read : Nat → Int32} {M_readPage : Nat → Int32} {M_page : Nat → Int32} {M_trial : Nat → Int32} {M_book : Nat → Int32} {M_kept : Nat → Int32} {M_isKept : Nat → Int32} {M_seenPoint : Nat → Int32} {M_seenSum : Nat → Int32} {M_seenWas : Nat → Int32} {p1 : Int32} {p2 : Int32} {p3 : Int32} {k7 : Int32 → Int32 → Int32 → Option (Int32)} {rr : Int32} (C0 : kC p s m args meth c D (kTY cI cC cZ) cX7_even (some .int) 5 RX7 A) (hk7 : ∀ (p1_k : Int32) (p2_k : Int32) (p3_k : Int32), k7 p1_k p2_k p3_k = some rr → ∀ (H : Heap) (locs : List Loc), va_P D vwCl (WD16 cI cC cZ a_M a_M_text a_M_plan a_M_read a_M_readPage a_M_page a_M_trial a_M_book a_M_kept a_M_isKept a_M_seenPoint a_M_seenSum a_M_seenWas M_thrown M_textSize M_place M_doings M_seen M_seed M_bestSet M_text M_plan M_read M_readPage M_page M_trial M_book M_kept M_isKept M_seenPoint M_seenSum M_seenWas) H → va_D A (WD16 cI cC cZ a_M a_M_text a_M_plan a_M_read a_M_readPage a_M_page a_M_trial a_M_book a_M_kept a_M_isKept a_M_seenPoint a_M_seenSum a_M_seenWas M_thrown M_textSize M_place M_doings M_seen M_seed M_bestSet M_text M_plan M_read M_readPage M_page M_trial M_book M_kept M_isKept M_seenPoint M_seenSum M_seenWas) → va_S A s.heap H locs → ∀ ls : Array Slot, lv_has ls 5 [(0, .ref a_M), (1, .int p1_k), (2, .int p2_k), (3, .int p3_k)] → W p l e rm_X7_even s m args below meth c H locs 0 0 (MQ below (kQI D (kTY cI cC cZ) A rr (WD16 cI cC cZ a_M a_M_text a_M_plan a_M_read a_M_readPage a_M_page a_M_trial a_M_book a_M_kept a_M_isKept a_M_seenPoint a_M_seenSum a_M_seenWas M_thrown M_textSize M_place M_doings M_seen M_seed M_bestSet M_text M_plan M_read M_readPage M_page M_trial M_book M_kept M_isKept M_seenPoint M_seenSum M_seenWas)) args s 0 0 A) (F0 m 7 ls [])) (h : bk_X7_even_7 k7 M_plan M_page p1 p2 p3 = some rr) {H : Heap} {locs : List Loc} (hP : va_P D vwCl (WD16 cI cC cZ a_M a_M_text a_M_plan a_M_read a_M_readPage a_M_page a_M_trial a_M_book a_M_kept a_M_isKept a_M_seenPoint a_M_seenSum a_M_seenWas M_thrown M_textSize M_place M_doings M_seen M_seed M_bestSet M_text M_plan M_read M_readPage M_page M_trial M_book M_kept M_isKept M_seenPoint M_seenSum M_seenWas) H) (hD : va_D A (WD16 cI cC cZ a_M a_M_text a_M_plan a_M_read a_M_readPage a_M_page a_M_trial a_M_book a_M_kept a_M_isKept a_M_seenPoint a_M_seenSum a_M_seenWas M_thrown M_textSize M_place M_doings M_seen M_seed M_bestSet M_text M_plan M_read M_readPage M_page M_trial M_book M_kept M_isKept M_seenPoint M_seenSum M_seenWas)) (hS : va_S A s.heap H locs) {ls : Array Slot} (hl : lv_has ls 5 [(0, .ref a_M), (1, .int p1), (2, .int p2), (3, .int p3)]) : W p l e rm_X7_even s m args below meth c H locs 0 0 (MQ below (kQI D (kTY cI cC cZ) A rr (WD16 cI cC cZ a_M a_M_text a_M_plan a_M_read a_M_readPage a_M_page a_M_trial a_M_book a_M_kept a_M_isKept a_M_seenPoint a_M_seenSum a_M_seenWas M_thrown M_textSize M_place M_doings M_seen M_seed M_bestSet M_text M_plan M_read M_readPage M_page M_trial M_book M_kept M_isKept M_seenPoint M_seenSum M_seenWas)) args s 0 0 A) (F0 m 7 ls []) := by
  obtain ⟨hx, hb, hr, hml, hown, hts, hK, hN, hA, hlocks, hF⟩ := id C0
  unfold bk_X7_even_7 at h
  refine lv_iload_n hx hb dX7_even_7 rfl (lv_at hl 3 rfl) ?_
  refine lv_aload_n hx hb dX7_even_8 rfl (lv_at hl 0 rfl) ?_
  obtain ⟨r2, hc1, h⟩ := oc_bind h
  refine kro_i (wc := (WD16 cI cC cZ a_M a_M_text a_M_plan a_M_read a_M_readPage a_M_page a_M_trial a_M_book a_M_kept a_M_isKept a_M_seenPoint a_M_seenSum a_M_seenWas M_thrown M_textSize M_place M_doings M_seen M_seed M_bestSet M_text M_plan M_read M_readPage M_page M_trial M_book M_kept M_isKept M_seenPoint M_seenSum M_seenWas)) C0 hP hD hS [0, 1, 2, 3, 4, 5, 6, 7, 8, 9, 10, 11, 12] rfl (kV (n := 0) (As := []) (rest := [.int p3]) (wc := (WD16 cI cC cZ a_M a_M_text a_M_plan a_M_read a_M_readPage a_M_page a_M_trial a_M_book a_M_kept a_M_isKept a_M_seenPoint a_M_seenSum a_M_seenWas M_thrown M_textSize M_place M_doings M_seen M_seed M_bestSet M_text M_plan M_read M_readPage M_page M_trial M_book M_kept M_isKept M_seenPoint M_seenSum M_seenWas)) (C := RX7) C0 hP hD hS [0, 1, 2, 3, 4, 5, 6, 7, 8, 9, 10, 11, 12] rfl (by decide) (c_X7_points l D cI cC cZ a_M a_M_text a_M_plan a_M_read a_M_readPage a_M_page a_M_trial a_M_book a_M_kept a_M_isKept a_M_seenPoint a_M_seenSum a_M_seenWas H.size M_thrown M_textSize M_place M_doings M_seen M_seed M_bestSet M_text M_plan M_read M_readPage M_page M_trial M_book M_kept M_isKept M_seenPoint M_seenSum M_seenWas  r2 hc1) kw_361 kw_358 kw_359 kw_360 kw_5 (by decide +kernel) (by decide) rfl rfl rfl hl.1 rfl (Nat.le_of_ble_eq_true rfl) ⟨Nat.zero_le _, Nat.zero_le _⟩ dX7_even_9) (fun H locs hP hS => ?_)
  refine lv_icmp_ge (tgt := 71) hx hb dX7_even_12 (by decide) (fun c3 => ?_) (fun c3 => ?_)
  · have h := oc_t c3 h
    exact wk_X7_even_71 C0  h hP hD hS (lv_sub hl [1, 2] rfl)
  · have h := oc_f c3 h
    refine lv_aload_n hx hb dX7_even_15 rfl (lv_at hl 0 rfl) ?_
    refine lv_iload_n hx hb dX7_even_16 rfl (lv_at hl 3 rfl) ?_
    refine lv_aload_n hx hb dX7_even_17 rfl (lv_at hl 0 rfl) ?_
    refine va_get (D := D) (ci := 7) (v := .ref a_M_page) (C := RX7) (T := TX7) (N := 19) hx hb hts inlX7 hown hK hP 0 rfl rfl 7 (by decide) (hts _ kw_88) (fun _ h9 => h9) rfl dX7_even_18 ?_
    obtain ⟨r5, hc4, h⟩ := oc_bind h
    refine kro_i (wc := (WD17 cI cC cZ a_M_page M_page)) C0 hP hD hS [5] rfl (kS (n := 1) (As := [.ref a_M_page]) (rest := [.int p3, .ref a_M]) (wc := (WD17 cI cC cZ a_M_page M_page)) C0 hP hD hS [5] rfl (by decide) (c_X7_live l D cI cC cZ a_M_page H.size M_page  r5 hc4) kw_364 kw_362 kw_363 kw_5 (by decide +kernel) (by decide) rfl hl.1 rfl (Nat.le_of_ble_eq_true rfl) ⟨Nat.zero_le _, Nat.zero_le _⟩ dX7_even_21) (fun H locs hP hS => ?_)
    refine lv_aload_n hx hb dX7_even_24 rfl (lv_at hl 0 rfl) ?_
    refine va_get (D := D) (ci := 7) (v := .ref a_M_page) (C := RX7) (T := TX7) (N := 19) hx hb hts inlX7 hown hK hP 0 rfl rfl 7 (by decide) (hts _ kw_88) (fun _ h9 => h9) rfl dX7_even_25 ?_
    refine lv_iconst (v := (2 : Int32)) hx hb dX7_even_28 (by decide) ?_
    refine va_iald hx hb hK hP 5 0 rfl rfl (show ¬ ((2 : Int32) < 0 ∨ 9 ≤ Int32.toNatClampNeg (2 : Int32)) by decide) dX7_even_29 ?_
    obtain ⟨r7, hc6, h⟩ := oc_bind h
    refine kro_i (wc := (WD16 cI cC cZ a_M a_M_text a_M_plan a_M_read a_M_readPage a_M_page a_M_trial a_M_book a_M_kept a_M_isKept a_M_seenPoint a_M_seenSum a_M_seenWas M_thrown M_textSize M_place M_doings M_seen M_seed M_bestSet M_text M_plan M_read M_readPage M_page M_trial M_book M_kept M_isKept M_seenPoint M_seenSum M_seenWas)) C0 hP hD hS [0, 1, 2, 3, 4, 5, 6, 7, 8, 9, 10, 11, 12] rfl (kV (n := 3) (As := [.int p3, .int r5, .int (M_page (Int32.toNatClampNeg (2 : Int32)))]) (rest := []) (wc := (WD16 cI cC cZ a_M a_M_text a_M_plan a_M_read a_M_readPage a_M_page a_M_trial a_M_book a_M_kept a_M_isKept a_M_seenPoint a_M_seenSum a_M_seenWas M_thrown M_textSize M_place M_doings M_seen M_seed M_bestSet M_text M_plan M_read M_readPage M_page M_trial M_book M_kept M_isKept M_seenPoint M_seenSum M_seenWas)) (C := RX7) C0 hP hD hS [0, 1, 2, 3, 4, 5, 6, 7, 8, 9, 10, 11, 12] rfl (by decide) (c_X7_sumBy l D cI cC cZ a_M a_M_text a_M_plan a_M_read a_M_readPage a_M_page a_M_trial a_M_book a_M_kept a_M_isKept a_M_seenPoint a_M_seenSum a_M_seenWas H.size M_thrown M_textSize M_place M_doings M_seen M_seed M_bestSet M_text M_plan M_read M_readPage M_page M_trial M_book M_kept M_isKept M_seenPoint M_seenSum M_seenWas p3 r5 (M_page (Int32.toNatClampNeg (2 : Int32))) r7 hc6) kw_368 kw_365 kw_366 kw_367 kw_5 (by decide +kernel) (by decide) rfl rfl rfl hl.1 rfl (Nat.le_of_ble_eq_true rfl) ⟨Nat.zero_le _, Nat.zero_le _⟩ dX7_even_30) (fun H locs hP hS => ?_)
    refine lv_istore (lv' := [(4, .int r7), (0, .ref a_M), (1, .int p1), (2, .int p2), (3, .int p3)]) hx hb dX7_even_33 hl (by decide) rfl (fun ls hl => ?_)
    refine lv_iload_n hx hb dX7_even_35 rfl (lv_at hl 4 rfl) ?_
    refine lv_if_eq (tgt := 45) hx hb dX7_even_36 (by decide) (fun c8 => ?_) (fun c8 => ?_)
    · have h := oc_t c8 h
      exact wk_X7_even_45 C0 hk7 h hP hD hS (lv_sub hl [1, 3, 4, 0] rfl)
    · have h := oc_f c8 h
      refine lv_iload hx hb dX7_even_39 (lv_at hl 0 rfl) ?_
      refine lv_iload_n hx hb dX7_even_41 rfl (lv_at hl 2 rfl) ?_
      refine lv_icmp_ge (tgt := 50) hx hb dX7_even_42 (by decide) (fun c9 => ?_) (fun c9 => ?_)
      · have h := oc_t c9 h
        refine lv_iload_n hx hb dX7_even_50 rfl (lv_at hl 2 rfl) ?_
        exact wk_X7_even_51 C0 hk7 h hP hD hS (lv_sub hl [1, 3, 4, 0] rfl)
      · have h := oc_f c9 h
        exact wk_X7_even_45 C0 hk7 h hP hD hS (lv_sub hl [1, 3, 4, 0] rfl)
noncomputable def lp_X7_even_7  (M_plan : Nat → Int32) (M_page : Nat → Int32) (n : Nat) : Int32 → Int32 → Int32 → Option (Int32) := Nat.rec (motive := fun _ => Int32 → Int32 → Int32 → Option (Int32)) (fun _ _ _ => none) (fun _ ih => bk_X7_even_7  ih M_plan M_page) n
set_option maxHeartbeats 4000000 in
set_option maxRecDepth 100000 in
theorem wl_X7_even_7 {p : Program} {l : Launch} {e : Env} {s : State} {m : MethodId} {args : Array Value} {below : List Frame} {meth : Method} {c : Code} {D : va_G} {cI cC cZ : ClassId} {A : Nat → Prop} {a_M a_M_text a_M_plan a_M_read a_M_readPage a_M_page a_M_trial a_M_book a_M_kept a_M_isKept a_M_seenPoint a_M_seenSum a_M_seenWas : Nat} {M_thrown : Int32} {M_textSize : Int32} {M_place : Int32} {M_doings : Int32} {M_seen : Int32} {M_seed : Int64} {M_bestSet : Int32} {M_text : Nat → Int32} {M_plan : Nat → Int32} {M_read : Nat → Int32} {M_readPage : Nat → Int32} {M_page : Nat → Int32} {M_trial : Nat → Int32} {M_book : Nat → Int32} {M_kept : Nat → Int32} {M_isKept : Nat → Int32} {M_seenPoint : Nat → Int32} {M_seenSum : Nat → Int32} {M_seenWas : Nat → Int32}  {rr : Int32} (C0 : kC p s m args meth c D (kTY cI cC cZ) cX7_even (some .int) 5 RX7 A)  : ∀ (n : Nat) (p1 : Int32) (p2 : Int32) (p3 : Int32), lp_X7_even_7  M_plan M_page n p1 p2 p3 = some rr → ∀ (H : Heap) (locs : List Loc), va_P D vwCl (WD16 cI cC cZ a_M a_M_text a_M_plan a_M_read a_M_readPage a_M_page a_M_trial a_M_book a_M_kept a_M_isKept a_M_seenPoint a_M_seenSum a_M_seenWas M_thrown M_textSize M_place M_doings M_seen M_seed M_bestSet M_text M_plan M_read M_readPage M_page M_trial M_book M_kept M_isKept M_seenPoint M_seenSum M_seenWas) H → va_D A (WD16 cI cC cZ a_M a_M_text a_M_plan a_M_read a_M_readPage a_M_page a_M_trial a_M_book a_M_kept a_M_isKept a_M_seenPoint a_M_seenSum a_M_seenWas M_thrown M_textSize M_place M_doings M_seen M_seed M_bestSet M_text M_plan M_read M_readPage M_page M_trial M_book M_kept M_isKept M_seenPoint M_seenSum M_seenWas) → va_S A s.heap H locs → ∀ ls : Array Slot, lv_has ls 5 [(0, .ref a_M), (1, .int p1), (2, .int p2), (3, .int p3)] → W p l e rm_X7_even s m args below meth c H locs 0 0 (MQ below (kQI D (kTY cI cC cZ) A rr (WD16 cI cC cZ a_M a_M_text a_M_plan a_M_read a_M_readPage a_M_page a_M_trial a_M_book a_M_kept a_M_isKept a_M_seenPoint a_M_seenSum a_M_seenWas M_thrown M_textSize M_place M_doings M_seen M_seed M_bestSet M_text M_plan M_read M_readPage M_page M_trial M_book M_kept M_isKept M_seenPoint M_seenSum M_seenWas)) args s 0 0 A) (F0 m 7 ls []) := by
  intro n
  induction n with
  | zero => intro p1 p2 p3 h; cases (show (none : Option (Int32)) = some _ from h)
  | succ n ih =>
    intro p1 p2 p3 h H locs hP hD hS ls hl
    exact wk_X7_even_7 C0  (fun p1 p2 p3 h H locs hP hD hS ls hl => ih p1 p2 p3 h H locs hP hD hS ls hl) (show bk_X7_even_7  (lp_X7_even_7  M_plan M_page n) M_plan M_page p1 p2 p3 = some _ from h) hP hD hS hl
noncomputable def f_X7_even (M_plan : Nat → Int32) (M_page : Nat → Int32)  : Option (Int32) := lp_X7_even_7  M_plan M_page 1000 (-9 : Int32) (0 : Int32) (0 : Int32)
set_option maxHeartbeats 4000000 in
set_option maxRecDepth 100000 in
theorem c_X7_even (l : Launch) (D : va_G) (cI cC cZ : ClassId) (a_M a_M_text a_M_plan a_M_read a_M_readPage a_M_page a_M_trial a_M_book a_M_kept a_M_isKept a_M_seenPoint a_M_seenSum a_M_seenWas : Nat) (sz : Nat) (M_thrown : Int32) (M_textSize : Int32) (M_place : Int32) (M_doings : Int32) (M_seen : Int32) (M_seed : Int64) (M_bestSet : Int32) (M_text : Nat → Int32) (M_plan : Nat → Int32) (M_read : Nat → Int32) (M_readPage : Nat → Int32) (M_page : Nat → Int32) (M_trial : Nat → Int32) (M_book : Nat → Int32) (M_kept : Nat → Int32) (M_isKept : Nat → Int32) (M_seenPoint : Nat → Int32) (M_seenSum : Nat → Int32) (M_seenWas : Nat → Int32) (rr : Int32) (hf : f_X7_even M_plan M_page = some rr) : kMet l yX7_even cX7_even 5 (some .int) rm_X7_even D (kTY cI cC cZ) [.ref a_M] (WD16 cI cC cZ a_M a_M_text a_M_plan a_M_read a_M_readPage a_M_page a_M_trial a_M_book a_M_kept a_M_isKept a_M_seenPoint a_M_seenSum a_M_seenWas M_thrown M_textSize M_place M_doings M_seen M_seed M_bestSet M_text M_plan M_read M_readPage M_page M_trial M_book M_kept M_isKept M_seenPoint M_seenSum M_seenWas) sz (kQI D (kTY cI cC cZ) (va_A (WD16 cI cC cZ a_M a_M_text a_M_plan a_M_read a_M_readPage a_M_page a_M_trial a_M_book a_M_kept a_M_isKept a_M_seenPoint a_M_seenSum a_M_seenWas M_thrown M_textSize M_place M_doings M_seen M_seed M_bestSet M_text M_plan M_read M_readPage M_page M_trial M_book M_kept M_isKept M_seenPoint M_seenSum M_seenWas) sz) rr (WD16 cI cC cZ a_M a_M_text a_M_plan a_M_read a_M_readPage a_M_page a_M_trial a_M_book a_M_kept a_M_isKept a_M_seenPoint a_M_seenSum a_M_seenWas M_thrown M_textSize M_place M_doings M_seen M_seed M_bestSet M_text M_plan M_read M_readPage M_page M_trial M_book M_kept M_isKept M_seenPoint M_seenSum M_seenWas)) := by
  refine kEnter (lv := [(0, .ref a_M)]) (own := RX7) (by decide) rfl (Nat.le_of_ble_eq_true rfl) rfl ?_
  intro p e s m below meth c hsz C0 hP hD hS ls hl
  generalize (va_A (WD16 cI cC cZ a_M a_M_text a_M_plan a_M_read a_M_readPage a_M_page a_M_trial a_M_book a_M_kept a_M_isKept a_M_seenPoint a_M_seenSum a_M_seenWas M_thrown M_textSize M_place M_doings M_seen M_seed M_bestSet M_text M_plan M_read M_readPage M_page M_trial M_book M_kept M_isKept M_seenPoint M_seenSum M_seenWas) sz) = A at C0 hD hS ⊢
  clear hsz hS
  obtain ⟨H, hHs⟩ : ∃ H : Heap, H = s.heap := ⟨_, rfl⟩
  have hS : va_S A s.heap H [] := by rw [hHs]; exact va_S.rf
  rw [← hHs] at hP ⊢
  obtain ⟨hx, hb, hr, hml, hown, hts, hK, hN, hA, hlocks, hF⟩ := id C0
  have h := hf
  unfold f_X7_even at h
  refine lv_bipush (v := (-9 : Int32)) hx hb dX7_even_0 (by decide) ?_
  refine lv_istore_n (lv' := [(1, .int (-9 : Int32)), (0, .ref a_M)]) hx hb dX7_even_2 rfl hl (by decide) rfl (fun ls hl => ?_)
  refine lv_iconst (v := (0 : Int32)) hx hb dX7_even_3 (by decide) ?_
  refine lv_istore_n (lv' := [(2, .int (0 : Int32)), (1, .int (-9 : Int32)), (0, .ref a_M)]) hx hb dX7_even_4 rfl hl (by decide) rfl (fun ls hl => ?_)
  refine lv_iconst (v := (0 : Int32)) hx hb dX7_even_5 (by decide) ?_
  refine lv_istore_n (lv' := [(3, .int (0 : Int32)), (2, .int (0 : Int32)), (1, .int (-9 : Int32)), (0, .ref a_M)]) hx hb dX7_even_6 rfl hl (by decide) rfl (fun ls hl => ?_)
  exact wl_X7_even_7 C0  _ _ _ _ h _ _ hP hD hS _ (lv_sub hl [3, 2, 1, 0] rfl)
abbrev rm_X7_ask : Room := { frames := 10, cells := 0, slots := 0, locals := 252 }
noncomputable def f_X7_ask (M_thrown : Int32) (M_plan : Nat → Int32) (M_page : Nat → Int32) (p1 : Int32) : Option (Int32 × Int32) := if p1 = 0 then ((f_X7_bestSpot M_plan M_page).bind (fun r9 => some (r9, (0 : Int32)))) else (if p1 = (1 : Int32) then ((f_X7_worstWall M_plan M_page).bind (fun r7 => some (r7, (0 : Int32)))) else (if p1 = (2 : Int32) then ((f_X7_even M_plan M_page).bind (fun r5 => some (r5, (0 : Int32)))) else (some ((-2 : Int32), (0 : Int32)))))
set_option maxHeartbeats 4000000 in
set_option maxRecDepth 100000 in
theorem c_X7_ask (l : Launch) (D : va_G) (cI cC cZ : ClassId) (a_M a_M_text a_M_plan a_M_read a_M_readPage a_M_page a_M_trial a_M_book a_M_kept a_M_isKept a_M_seenPoint a_M_seenSum a_M_seenWas : Nat) (sz : Nat) (M_thrown : Int32) (M_textSize : Int32) (M_place : Int32) (M_doings : Int32) (M_seen : Int32) (M_seed : Int64) (M_bestSet : Int32) (M_text : Nat → Int32) (M_plan : Nat → Int32) (M_read : Nat → Int32) (M_readPage : Nat → Int32) (M_page : Nat → Int32) (M_trial : Nat → Int32) (M_book : Nat → Int32) (M_kept : Nat → Int32) (M_isKept : Nat → Int32) (M_seenPoint : Nat → Int32) (M_seenSum : Nat → Int32) (M_seenWas : Nat → Int32) (p1 : Int32) (rr : Int32) (u_M_thrown : Int32) (hf : f_X7_ask M_thrown M_plan M_page p1 = some (rr, u_M_thrown)) : kMet l yX7_ask cX7_ask 2 (some .int) rm_X7_ask D (kTY cI cC cZ) [.ref a_M, .int p1] (WD16 cI cC cZ a_M a_M_text a_M_plan a_M_read a_M_readPage a_M_page a_M_trial a_M_book a_M_kept a_M_isKept a_M_seenPoint a_M_seenSum a_M_seenWas M_thrown M_textSize M_place M_doings M_seen M_seed M_bestSet M_text M_plan M_read M_readPage M_page M_trial M_book M_kept M_isKept M_seenPoint M_seenSum M_seenWas) sz (kQI D (kTY cI cC cZ) (va_A (WD16 cI cC cZ a_M a_M_text a_M_plan a_M_read a_M_readPage a_M_page a_M_trial a_M_book a_M_kept a_M_isKept a_M_seenPoint a_M_seenSum a_M_seenWas M_thrown M_textSize M_place M_doings M_seen M_seed M_bestSet M_text M_plan M_read M_readPage M_page M_trial M_book M_kept M_isKept M_seenPoint M_seenSum M_seenWas) sz) rr (WD16 cI cC cZ a_M a_M_text a_M_plan a_M_read a_M_readPage a_M_page a_M_trial a_M_book a_M_kept a_M_isKept a_M_seenPoint a_M_seenSum a_M_seenWas u_M_thrown M_textSize M_place M_doings M_seen M_seed M_bestSet M_text M_plan M_read M_readPage M_page M_trial M_book M_kept M_isKept M_seenPoint M_seenSum M_seenWas)) := by
  refine kEnter (lv := [(0, .ref a_M), (1, .int p1)]) (own := RX7) (by decide) rfl (Nat.le_of_ble_eq_true rfl) rfl ?_
  intro p e s m below meth c hsz C0 hP hD hS ls hl
  generalize (va_A (WD16 cI cC cZ a_M a_M_text a_M_plan a_M_read a_M_readPage a_M_page a_M_trial a_M_book a_M_kept a_M_isKept a_M_seenPoint a_M_seenSum a_M_seenWas M_thrown M_textSize M_place M_doings M_seen M_seed M_bestSet M_text M_plan M_read M_readPage M_page M_trial M_book M_kept M_isKept M_seenPoint M_seenSum M_seenWas) sz) = A at C0 hD hS ⊢
  clear hsz hS
  obtain ⟨H, hHs⟩ : ∃ H : Heap, H = s.heap := ⟨_, rfl⟩
  have hS : va_S A s.heap H [] := by rw [hHs]; exact va_S.rf
  rw [← hHs] at hP ⊢
  obtain ⟨hx, hb, hr, hml, hown, hts, hK, hN, hA, hlocks, hF⟩ := id C0
  have h := hf
  unfold f_X7_ask at h
  refine lv_aload_n hx hb dX7_ask_0 rfl (lv_at hl 0 rfl) ?_
  refine lv_iconst (v := (0 : Int32)) hx hb dX7_ask_1 (by decide) ?_
  refine va_put (D := D) (ci := 7) (v := .int (0 : Int32)) (ty := .int) (C := RX7) (T := TX7) (N := 19) hx hb hts inlX7 tyX7 tyX7_ok nmX7 hown hK hP hD hS 0 rfl rfl 0 (by decide) (hts _ kw_109) (fun _ h9 => h9) rfl (by decide +kernel) rfl rfl (Nat.le_of_ble_eq_true rfl) dX7_ask_2 (fun H locs hP hD hS => ?_)
  have hP : va_P D vwCl (WD16 cI cC cZ a_M a_M_text a_M_plan a_M_read a_M_readPage a_M_page a_M_trial a_M_book a_M_kept a_M_isKept a_M_seenPoint a_M_seenSum a_M_seenWas (0 : Int32) M_textSize M_place M_doings M_seen M_seed M_bestSet M_text M_plan M_read M_readPage M_page M_trial M_book M_kept M_isKept M_seenPoint M_seenSum M_seenWas) H := hP
  have hD : va_D A (WD16 cI cC cZ a_M a_M_text a_M_plan a_M_read a_M_readPage a_M_page a_M_trial a_M_book a_M_kept a_M_isKept a_M_seenPoint a_M_seenSum a_M_seenWas (0 : Int32) M_textSize M_place M_doings M_seen M_seed M_bestSet M_text M_plan M_read M_readPage M_page M_trial M_book M_kept M_isKept M_seenPoint M_seenSum M_seenWas) := hD
  refine lv_iload_n hx hb dX7_ask_5 rfl (lv_at hl 1 rfl) ?_
  refine lv_if_ne (tgt := 16) hx hb dX7_ask_6 (by decide) (fun c1 => ?_) (fun c1 => ?_)
  · have h := oc_f c1 h
    refine lv_iload_n hx hb dX7_ask_16 rfl (lv_at hl 1 rfl) ?_
    refine lv_iconst (v := (1 : Int32)) hx hb dX7_ask_17 (by decide) ?_
    refine lv_icmp_ne (tgt := 28) hx hb dX7_ask_18 (by decide) (fun c2 => ?_) (fun c2 => ?_)
    · have h := oc_f c2 h
      refine lv_iload_n hx hb dX7_ask_28 rfl (lv_at hl 1 rfl) ?_
      refine lv_iconst (v := (2 : Int32)) hx hb dX7_ask_29 (by decide) ?_
      refine lv_icmp_ne (tgt := 40) hx hb dX7_ask_30 (by decide) (fun c3 => ?_) (fun c3 => ?_)
      · have h := oc_f c3 h
        refine lv_bipush (v := (-2 : Int32)) hx hb dX7_ask_40 (by decide) ?_
        cases h
        exact kret_i C0 hP hD hS rfl dX7_ask_42
      · have h := oc_t c3 h
        refine lv_aload_n hx hb dX7_ask_33 rfl (lv_at hl 0 rfl) ?_
        obtain ⟨r5, hc4, h⟩ := oc_bind h
        refine kro_i (wc := (WD16 cI cC cZ a_M a_M_text a_M_plan a_M_read a_M_readPage a_M_page a_M_trial a_M_book a_M_kept a_M_isKept a_M_seenPoint a_M_seenSum a_M_seenWas (0 : Int32) M_textSize M_place M_doings M_seen M_seed M_bestSet M_text M_plan M_read M_readPage M_page M_trial M_book M_kept M_isKept M_seenPoint M_seenSum M_seenWas)) C0 hP hD hS [0, 1, 2, 3, 4, 5, 6, 7, 8, 9, 10, 11, 12] rfl (kV (n := 0) (As := []) (rest := []) (wc := (WD16 cI cC cZ a_M a_M_text a_M_plan a_M_read a_M_readPage a_M_page a_M_trial a_M_book a_M_kept a_M_isKept a_M_seenPoint a_M_seenSum a_M_seenWas (0 : Int32) M_textSize M_place M_doings M_seen M_seed M_bestSet M_text M_plan M_read M_readPage M_page M_trial M_book M_kept M_isKept M_seenPoint M_seenSum M_seenWas)) (C := RX7) C0 hP hD hS [0, 1, 2, 3, 4, 5, 6, 7, 8, 9, 10, 11, 12] rfl (by decide) (c_X7_even l D cI cC cZ a_M a_M_text a_M_plan a_M_read a_M_readPage a_M_page a_M_trial a_M_book a_M_kept a_M_isKept a_M_seenPoint a_M_seenSum a_M_seenWas H.size (0 : Int32) M_textSize M_place M_doings M_seen M_seed M_bestSet M_text M_plan M_read M_readPage M_page M_trial M_book M_kept M_isKept M_seenPoint M_seenSum M_seenWas  r5 hc4) kw_613 kw_610 kw_611 kw_612 kw_5 (by decide +kernel) (by decide) rfl rfl rfl hl.1 rfl (Nat.le_of_ble_eq_true rfl) ⟨Nat.zero_le _, Nat.zero_le _⟩ dX7_ask_34) (fun H locs hP hS => ?_)
        refine lv_goto (tgt := 42) hx hb dX7_ask_37 (by decide) ?_
        cases h
        exact kret_i C0 hP hD hS rfl dX7_ask_42
    · have h := oc_t c2 h
      refine lv_aload_n hx hb dX7_ask_21 rfl (lv_at hl 0 rfl) ?_
      obtain ⟨r7, hc6, h⟩ := oc_bind h
      refine kro_i (wc := (WD16 cI cC cZ a_M a_M_text a_M_plan a_M_read a_M_readPage a_M_page a_M_trial a_M_book a_M_kept a_M_isKept a_M_seenPoint a_M_seenSum a_M_seenWas (0 : Int32) M_textSize M_place M_doings M_seen M_seed M_bestSet M_text M_plan M_read M_readPage M_page M_trial M_book M_kept M_isKept M_seenPoint M_seenSum M_seenWas)) C0 hP hD hS [0, 1, 2, 3, 4, 5, 6, 7, 8, 9, 10, 11, 12] rfl (kV (n := 0) (As := []) (rest := []) (wc := (WD16 cI cC cZ a_M a_M_text a_M_plan a_M_read a_M_readPage a_M_page a_M_trial a_M_book a_M_kept a_M_isKept a_M_seenPoint a_M_seenSum a_M_seenWas (0 : Int32) M_textSize M_place M_doings M_seen M_seed M_bestSet M_text M_plan M_read M_readPage M_page M_trial M_book M_kept M_isKept M_seenPoint M_seenSum M_seenWas)) (C := RX7) C0 hP hD hS [0, 1, 2, 3, 4, 5, 6, 7, 8, 9, 10, 11, 12] rfl (by decide) (c_X7_worstWall l D cI cC cZ a_M a_M_text a_M_plan a_M_read a_M_readPage a_M_page a_M_trial a_M_book a_M_kept a_M_isKept a_M_seenPoint a_M_seenSum a_M_seenWas H.size (0 : Int32) M_textSize M_place M_doings M_seen M_seed M_bestSet M_text M_plan M_read M_readPage M_page M_trial M_book M_kept M_isKept M_seenPoint M_seenSum M_seenWas  r7 hc6) kw_609 kw_606 kw_607 kw_608 kw_5 (by decide +kernel) (by decide) rfl rfl rfl hl.1 rfl (Nat.le_of_ble_eq_true rfl) ⟨Nat.zero_le _, Nat.zero_le _⟩ dX7_ask_22) (fun H locs hP hS => ?_)
      refine lv_goto (tgt := 42) hx hb dX7_ask_25 (by decide) ?_
      cases h
      exact kret_i C0 hP hD hS rfl dX7_ask_42
  · have h := oc_t c1 h
    refine lv_aload_n hx hb dX7_ask_9 rfl (lv_at hl 0 rfl) ?_
    obtain ⟨r9, hc8, h⟩ := oc_bind h
    refine kro_i (wc := (WD16 cI cC cZ a_M a_M_text a_M_plan a_M_read a_M_readPage a_M_page a_M_trial a_M_book a_M_kept a_M_isKept a_M_seenPoint a_M_seenSum a_M_seenWas (0 : Int32) M_textSize M_place M_doings M_seen M_seed M_bestSet M_text M_plan M_read M_readPage M_page M_trial M_book M_kept M_isKept M_seenPoint M_seenSum M_seenWas)) C0 hP hD hS [0, 1, 2, 3, 4, 5, 6, 7, 8, 9, 10, 11, 12] rfl (kV (n := 0) (As := []) (rest := []) (wc := (WD16 cI cC cZ a_M a_M_text a_M_plan a_M_read a_M_readPage a_M_page a_M_trial a_M_book a_M_kept a_M_isKept a_M_seenPoint a_M_seenSum a_M_seenWas (0 : Int32) M_textSize M_place M_doings M_seen M_seed M_bestSet M_text M_plan M_read M_readPage M_page M_trial M_book M_kept M_isKept M_seenPoint M_seenSum M_seenWas)) (C := RX7) C0 hP hD hS [0, 1, 2, 3, 4, 5, 6, 7, 8, 9, 10, 11, 12] rfl (by decide) (c_X7_bestSpot l D cI cC cZ a_M a_M_text a_M_plan a_M_read a_M_readPage a_M_page a_M_trial a_M_book a_M_kept a_M_isKept a_M_seenPoint a_M_seenSum a_M_seenWas H.size (0 : Int32) M_textSize M_place M_doings M_seen M_seed M_bestSet M_text M_plan M_read M_readPage M_page M_trial M_book M_kept M_isKept M_seenPoint M_seenSum M_seenWas  r9 hc8) kw_597 kw_594 kw_595 kw_596 kw_5 (by decide +kernel) (by decide) rfl rfl rfl hl.1 rfl (Nat.le_of_ble_eq_true rfl) ⟨Nat.zero_le _, Nat.zero_le _⟩ dX7_ask_10) (fun H locs hP hS => ?_)
    refine lv_goto (tgt := 42) hx hb dX7_ask_13 (by decide) ?_
    cases h
    exact kret_i C0 hP hD hS rfl dX7_ask_42
