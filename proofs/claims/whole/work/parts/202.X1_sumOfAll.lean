abbrev rm_X1_sumOfAll : Room := { frames := 3, cells := 0, slots := 0, locals := 70 }
noncomputable def bk_X1_sumOfAll_5 (k5 : Int32 → Int32 → Option (Int32)) (F_glow : Int32) (F_spotCount : Int32) (F_pointCount : Int32) (F_across : Nat → Int32) (F_bareLight : Nat → Int32) (p1 : Int32) (p2 : Int32) (p3 : Int32) (p4 : Int32) : Option (Int32) := if F_pointCount ≤ p4 then (some p3) else ((f_X1_sumAt F_glow F_spotCount F_pointCount F_across F_bareLight p4 p1 p2).bind (fun r3 => nm_ (p3 + r3) (fun t4 => nm_ (p4 + (1 : Int32)) (fun t5 => k5 t4 t5))))
set_option maxHeartbeats 4000000 in
set_option maxRecDepth 100000 in
theorem wk_X1_sumOfAll_5 {p : Program} {l : Launch} {e : Env} {s : State} {m : MethodId} {args : Array Value} {below : List Frame} {meth : Method} {c : Code} {D : va_G} {cI cC cZ : ClassId} {A : Nat → Prop} {a_F a_F_table a_F_spots a_F_points a_F_walls a_F_across a_F_bareLight : Nat} {F_glow : Int32} {F_spotCount : Int32} {F_pointCount : Int32} {F_wallCount : Int32} {F_table : Nat → Int32} {F_spots : Nat → Int32} {F_points : Nat → Int32} {F_walls : Nat → Int32} {F_across : Nat → Int32} {F_bareLight : Nat → Int32} {p1 : Int32} {p2 : Int32} {p3 : Int32} {p4 : Int32} {k5 : Int32 → Int32 → Option (Int32)} {rr : Int32} (C0 : kC p s m args meth c D (kTY cI cC cZ) cX1_sumOfAll (some .int) 5 RX1 A) (hk5 : ∀ (p3_k : Int32) (p4_k : Int32), k5 p3_k p4_k = some rr → ∀ (H : Heap) (locs : List Loc), va_P D vwCl (WD2 cI cC cZ a_F a_F_table a_F_spots a_F_points a_F_walls a_F_across a_F_bareLight F_glow F_spotCount F_pointCount F_wallCount F_table F_spots F_points F_walls F_across F_bareLight) H → va_D A (WD2 cI cC cZ a_F a_F_table a_F_spots a_F_points a_F_walls a_F_across a_F_bareLight F_glow F_spotCount F_pointCount F_wallCount F_table F_spots F_points F_walls F_across F_bareLight) → va_S A s.heap H locs → ∀ ls : Array Slot, lv_has ls 5 [(0, .ref a_F), (1, .int p1), (2, .int p2), (3, .int p3_k), (4, .int p4_k)] → W p l e rm_X1_sumOfAll s m args below meth c H locs 0 0 (MQ below (kQI D (kTY cI cC cZ) A rr (WD2 cI cC cZ a_F a_F_table a_F_spots a_F_points a_F_walls a_F_across a_F_bareLight F_glow F_spotCount F_pointCount F_wallCount F_table F_spots F_points F_walls F_across F_bareLight)) args s 0 0 A) (F0 m 5 ls [])) (h : bk_X1_sumOfAll_5 k5 F_glow F_spotCount F_pointCount F_across F_bareLight p1 p2 p3 p4 = some rr) {H : Heap} {locs : List Loc} (hP : va_P D vwCl (WD2 cI cC cZ a_F a_F_table a_F_spots a_F_points a_F_walls a_F_across a_F_bareLight F_glow F_spotCount F_pointCount F_wallCount F_table F_spots F_points F_walls F_across F_bareLight) H) (hD : va_D A (WD2 cI cC cZ a_F a_F_table a_F_spots a_F_points a_F_walls a_F_across a_F_bareLight F_glow F_spotCount F_pointCount F_wallCount F_table F_spots F_points F_walls F_across F_bareLight)) (hS : va_S A s.heap H locs) {ls : Array Slot} (hl : lv_has ls 5 [(0, .ref a_F), (1, .int p1), (2, .int p2), (3, .int p3), (4, .int p4)]) : W p l e rm_X1_sumOfAll s m args below meth c H locs 0 0 (MQ below (kQI D (kTY cI cC cZ) A rr (WD2 cI cC cZ a_F a_F_table a_F_spots a_F_points a_F_walls a_F_across a_F_bareLight F_glow F_spotCount F_pointCount F_wallCount F_table F_spots F_points F_walls F_across F_bareLight)) args s 0 0 A) (F0 m 5 ls []) := by
  obtain ⟨hx, hb, hr, hml, hown, hts, hK, hN, hA, hlocks, hF⟩ := id C0
  unfold bk_X1_sumOfAll_5 at h
  refine lv_iload hx hb dX1_sumOfAll_5 (lv_at hl 4 rfl) ?_
  refine lv_aload_n hx hb dX1_sumOfAll_7 rfl (lv_at hl 0 rfl) ?_
  refine va_get (D := D) (ci := 1) (v := .int F_pointCount) (C := RX1) (T := TX1) (N := 10) hx hb hts inlX1 hown hK hP 0 rfl rfl 8 (by decide) (hts _ kw_208) (fun _ h9 => h9) rfl dX1_sumOfAll_8 ?_
  refine lv_icmp_ge (tgt := 31) hx hb dX1_sumOfAll_11 (by decide) (fun c1 => ?_) (fun c1 => ?_)
  · have h := oc_t c1 h
    refine lv_iload_n hx hb dX1_sumOfAll_31 rfl (lv_at hl 3 rfl) ?_
    cases h
    exact kret_i C0 hP hD hS rfl dX1_sumOfAll_32
  · have h := oc_f c1 h
    refine lv_iload_n hx hb dX1_sumOfAll_14 rfl (lv_at hl 3 rfl) ?_
    refine lv_aload_n hx hb dX1_sumOfAll_15 rfl (lv_at hl 0 rfl) ?_
    refine lv_iload hx hb dX1_sumOfAll_16 (lv_at hl 4 rfl) ?_
    refine lv_iload_n hx hb dX1_sumOfAll_18 rfl (lv_at hl 1 rfl) ?_
    refine lv_iload_n hx hb dX1_sumOfAll_19 rfl (lv_at hl 2 rfl) ?_
    obtain ⟨r3, hc2, h⟩ := oc_bind h
    refine kro_i (wc := (WD2 cI cC cZ a_F a_F_table a_F_spots a_F_points a_F_walls a_F_across a_F_bareLight F_glow F_spotCount F_pointCount F_wallCount F_table F_spots F_points F_walls F_across F_bareLight)) C0 hP hD hS [0, 1, 2, 3, 4, 5, 6] rfl (kV (n := 3) (As := [.int p4, .int p1, .int p2]) (rest := [.int p3]) (wc := (WD2 cI cC cZ a_F a_F_table a_F_spots a_F_points a_F_walls a_F_across a_F_bareLight F_glow F_spotCount F_pointCount F_wallCount F_table F_spots F_points F_walls F_across F_bareLight)) (C := RX1) C0 hP hD hS [0, 1, 2, 3, 4, 5, 6] rfl (by decide) (c_X1_sumAt l D cI cC cZ a_F a_F_table a_F_spots a_F_points a_F_walls a_F_across a_F_bareLight H.size F_glow F_spotCount F_pointCount F_wallCount F_table F_spots F_points F_walls F_across F_bareLight p4 p1 p2 r3 hc2) kw_316 kw_573 kw_314 kw_315 kw_19 (by decide +kernel) (by decide) rfl rfl rfl hl.1 rfl (Nat.le_of_ble_eq_true rfl) ⟨Nat.zero_le _, Nat.zero_le _⟩ dX1_sumOfAll_20) (fun H locs hP hS => ?_)
    refine lv_iadd hx hb dX1_sumOfAll_23 ?_
    refine lv_topi (fun t4 e_t4 => ?_)
    have h := oc_nm e_t4 h
    refine lv_istore_n (lv' := [(3, .int t4), (0, .ref a_F), (1, .int p1), (2, .int p2), (4, .int p4)]) hx hb dX1_sumOfAll_24 rfl hl (by decide) rfl (fun ls hl => ?_)
    obtain ⟨t5, e_t5⟩ : ∃ y : Int32, y = p4 + (1 : Int32) := ⟨_, rfl⟩
    have h := oc_nm e_t5 h
    refine lv_iinc (v := t5) (lv' := [(4, .int t5), (3, .int t4), (0, .ref a_F), (1, .int p1), (2, .int p2)]) hx hb dX1_sumOfAll_25 hl (k := 4) rfl (by rw [e_t5]; rfl) (by decide) rfl (fun ls hl => ?_)
    refine lv_goto (tgt := 5) hx hb dX1_sumOfAll_28 (by decide) ?_
    exact hk5 _ _ h _ _ hP hD hS _ (lv_sub hl [2, 3, 4, 1, 0] rfl)
noncomputable def lp_X1_sumOfAll_5  (F_glow : Int32) (F_spotCount : Int32) (F_pointCount : Int32) (F_across : Nat → Int32) (F_bareLight : Nat → Int32) (p1 : Int32) (p2 : Int32) (n : Nat) : Int32 → Int32 → Option (Int32) := Nat.rec (motive := fun _ => Int32 → Int32 → Option (Int32)) (fun _ _ => none) (fun _ ih => bk_X1_sumOfAll_5  ih F_glow F_spotCount F_pointCount F_across F_bareLight p1 p2) n
set_option maxHeartbeats 4000000 in
set_option maxRecDepth 100000 in
theorem wl_X1_sumOfAll_5 {p : Program} {l : Launch} {e : Env} {s : State} {m : MethodId} {args : Array Value} {below : List Frame} {meth : Method} {c : Code} {D : va_G} {cI cC cZ : ClassId} {A : Nat → Prop} {a_F a_F_table a_F_spots a_F_points a_F_walls a_F_across a_F_bareLight : Nat} {F_glow : Int32} {F_spotCount : Int32} {F_pointCount : Int32} {F_wallCount : Int32} {F_table : Nat → Int32} {F_spots : Nat → Int32} {F_points : Nat → Int32} {F_walls : Nat → Int32} {F_across : Nat → Int32} {F_bareLight : Nat → Int32} {p1 : Int32} {p2 : Int32}  {rr : Int32} (C0 : kC p s m args meth c D (kTY cI cC cZ) cX1_sumOfAll (some .int) 5 RX1 A)  : ∀ (n : Nat) (p3 : Int32) (p4 : Int32), lp_X1_sumOfAll_5  F_glow F_spotCount F_pointCount F_across F_bareLight p1 p2 n p3 p4 = some rr → ∀ (H : Heap) (locs : List Loc), va_P D vwCl (WD2 cI cC cZ a_F a_F_table a_F_spots a_F_points a_F_walls a_F_across a_F_bareLight F_glow F_spotCount F_pointCount F_wallCount F_table F_spots F_points F_walls F_across F_bareLight) H → va_D A (WD2 cI cC cZ a_F a_F_table a_F_spots a_F_points a_F_walls a_F_across a_F_bareLight F_glow F_spotCount F_pointCount F_wallCount F_table F_spots F_points F_walls F_across F_bareLight) → va_S A s.heap H locs → ∀ ls : Array Slot, lv_has ls 5 [(0, .ref a_F), (1, .int p1), (2, .int p2), (3, .int p3), (4, .int p4)] → W p l e rm_X1_sumOfAll s m args below meth c H locs 0 0 (MQ below (kQI D (kTY cI cC cZ) A rr (WD2 cI cC cZ a_F a_F_table a_F_spots a_F_points a_F_walls a_F_across a_F_bareLight F_glow F_spotCount F_pointCount F_wallCount F_table F_spots F_points F_walls F_across F_bareLight)) args s 0 0 A) (F0 m 5 ls []) := by
  intro n
  induction n with
  | zero => intro p3 p4 h; cases (show (none : Option (Int32)) = some _ from h)
  | succ n ih =>
    intro p3 p4 h H locs hP hD hS ls hl
    exact wk_X1_sumOfAll_5 C0  (fun p3 p4 h H locs hP hD hS ls hl => ih p3 p4 h H locs hP hD hS ls hl) (show bk_X1_sumOfAll_5  (lp_X1_sumOfAll_5  F_glow F_spotCount F_pointCount F_across F_bareLight p1 p2 n) F_glow F_spotCount F_pointCount F_across F_bareLight p1 p2 p3 p4 = some _ from h) hP hD hS hl
noncomputable def f_X1_sumOfAll (F_glow : Int32) (F_spotCount : Int32) (F_pointCount : Int32) (F_across : Nat → Int32) (F_bareLight : Nat → Int32) (p1 : Int32) (p2 : Int32) : Option (Int32) := lp_X1_sumOfAll_5  F_glow F_spotCount F_pointCount F_across F_bareLight p1 p2 1000 (0 : Int32) (0 : Int32)
set_option maxHeartbeats 4000000 in
set_option maxRecDepth 100000 in
theorem c_X1_sumOfAll (l : Launch) (D : va_G) (cI cC cZ : ClassId) (a_F a_F_table a_F_spots a_F_points a_F_walls a_F_across a_F_bareLight : Nat) (sz : Nat) (F_glow : Int32) (F_spotCount : Int32) (F_pointCount : Int32) (F_wallCount : Int32) (F_table : Nat → Int32) (F_spots : Nat → Int32) (F_points : Nat → Int32) (F_walls : Nat → Int32) (F_across : Nat → Int32) (F_bareLight : Nat → Int32) (p1 : Int32) (p2 : Int32) (rr : Int32) (hf : f_X1_sumOfAll F_glow F_spotCount F_pointCount F_across F_bareLight p1 p2 = some rr) : kMet l yX1_sumOfAll cX1_sumOfAll 5 (some .int) rm_X1_sumOfAll D (kTY cI cC cZ) [.ref a_F, .int p1, .int p2] (WD2 cI cC cZ a_F a_F_table a_F_spots a_F_points a_F_walls a_F_across a_F_bareLight F_glow F_spotCount F_pointCount F_wallCount F_table F_spots F_points F_walls F_across F_bareLight) sz (kQI D (kTY cI cC cZ) (va_A (WD2 cI cC cZ a_F a_F_table a_F_spots a_F_points a_F_walls a_F_across a_F_bareLight F_glow F_spotCount F_pointCount F_wallCount F_table F_spots F_points F_walls F_across F_bareLight) sz) rr (WD2 cI cC cZ a_F a_F_table a_F_spots a_F_points a_F_walls a_F_across a_F_bareLight F_glow F_spotCount F_pointCount F_wallCount F_table F_spots F_points F_walls F_across F_bareLight)) := by
  refine kEnter (lv := [(0, .ref a_F), (1, .int p1), (2, .int p2)]) (own := RX1) (by decide) rfl (Nat.le_of_ble_eq_true rfl) rfl ?_
  intro p e s m below meth c hsz C0 hP hD hS ls hl
  generalize (va_A (WD2 cI cC cZ a_F a_F_table a_F_spots a_F_points a_F_walls a_F_across a_F_bareLight F_glow F_spotCount F_pointCount F_wallCount F_table F_spots F_points F_walls F_across F_bareLight) sz) = A at C0 hD hS ⊢
  clear hsz hS
  obtain ⟨H, hHs⟩ : ∃ H : Heap, H = s.heap := ⟨_, rfl⟩
  have hS : va_S A s.heap H [] := by rw [hHs]; exact va_S.rf
  rw [← hHs] at hP ⊢
  obtain ⟨hx, hb, hr, hml, hown, hts, hK, hN, hA, hlocks, hF⟩ := id C0
  have h := hf
  unfold f_X1_sumOfAll at h
  refine lv_iconst (v := (0 : Int32)) hx hb dX1_sumOfAll_0 (by decide) ?_
  refine lv_istore_n (lv' := [(3, .int (0 : Int32)), (0, .ref a_F), (1, .int p1), (2, .int p2)]) hx hb dX1_sumOfAll_1 rfl hl (by decide) rfl (fun ls hl => ?_)
  refine lv_iconst (v := (0 : Int32)) hx hb dX1_sumOfAll_2 (by decide) ?_
  refine lv_istore (lv' := [(4, .int (0 : Int32)), (3, .int (0 : Int32)), (0, .ref a_F), (1, .int p1), (2, .int p2)]) hx hb dX1_sumOfAll_3 hl (by decide) rfl (fun ls hl => ?_)
  exact wl_X1_sumOfAll_5 C0  _ _ _ h _ _ hP hD hS _ (lv_sub hl [2, 3, 4, 1, 0] rfl)
abbrev rm_X1_priceOf : Room := { frames := 2, cells := 0, slots := 0, locals := 45 }
noncomputable def bk_X1_priceOf_4 (k4 : Int32 → Int32 → Option (Int32)) (F_spotCount : Int32) (F_spots : Nat → Int32) (p1 : Int32) (p2 : Int32) (p3 : Int32) : Option (Int32) := if F_spotCount ≤ p3 then (some p2) else (if ((p1 >>> (p3 &&& 31)) &&& (1 : Int32)) = 0 then (nm_ (p3 + (1 : Int32)) (fun t3 => k4 p2 t3)) else ((f_X1_spotFigure F_spots p3 (3 : Int32)).bind (fun r5 => nm_ (p2 + r5) (fun t6 => nm_ (p3 + (1 : Int32)) (fun t7 => k4 t6 t7)))))
set_option maxHeartbeats 4000000 in
set_option maxRecDepth 100000 in
theorem wk_X1_priceOf_4 {p : Program} {l : Launch} {e : Env} {s : State} {m : MethodId} {args : Array Value} {below : List Frame} {meth : Method} {c : Code} {D : va_G} {cI cC cZ : ClassId} {A : Nat → Prop} {a_F a_F_table a_F_spots a_F_points a_F_walls a_F_across a_F_bareLight : Nat} {F_glow : Int32} {F_spotCount : Int32} {F_pointCount : Int32} {F_wallCount : Int32} {F_table : Nat → Int32} {F_spots : Nat → Int32} {F_points : Nat → Int32} {F_walls : Nat → Int32} {F_across : Nat → Int32} {F_bareLight : Nat → Int32} {p1 : Int32} {p2 : Int32} {p3 : Int32} {k4 : Int32 → Int32 → Option (Int32)} {rr : Int32} (C0 : kC p s m args meth c D (kTY cI cC cZ) cX1_priceOf (some .int) 4 RX1 A) (hk4 : ∀ (p2_k : Int32) (p3_k : Int32), k4 p2_k p3_k = some rr → ∀ (H : Heap) (locs : List Loc), va_P D vwCl (WD2 cI cC cZ a_F a_F_table a_F_spots a_F_points a_F_walls a_F_across a_F_bareLight F_glow F_spotCount F_pointCount F_wallCount F_table F_spots F_points F_walls F_across F_bareLight) H → va_D A (WD2 cI cC cZ a_F a_F_table a_F_spots a_F_points a_F_walls a_F_across a_F_bareLight F_glow F_spotCount F_pointCount F_wallCount F_table F_spots F_points F_walls F_across F_bareLight) → va_S A s.heap H locs → ∀ ls : Array Slot, lv_has ls 4 [(0, .ref a_F), (1, .int p1), (2, .int p2_k), (3, .int p3_k)] → W p l e rm_X1_priceOf s m args below meth c H locs 0 0 (MQ below (kQI D (kTY cI cC cZ) A rr (WD2 cI cC cZ a_F a_F_table a_F_spots a_F_points a_F_walls a_F_across a_F_bareLight F_glow F_spotCount F_pointCount F_wallCount F_table F_spots F_points F_walls F_across F_bareLight)) args s 0 0 A) (F0 m 4 ls [])) (h : bk_X1_priceOf_4 k4 F_spotCount F_spots p1 p2 p3 = some rr) {H : Heap} {locs : List Loc} (hP : va_P D vwCl (WD2 cI cC cZ a_F a_F_table a_F_spots a_F_points a_F_walls a_F_across a_F_bareLight F_glow F_spotCount F_pointCount F_wallCount F_table F_spots F_points F_walls F_across F_bareLight) H) (hD : va_D A (WD2 cI cC cZ a_F a_F_table a_F_spots a_F_points a_F_walls a_F_across a_F_bareLight F_glow F_spotCount F_pointCount F_wallCount F_table F_spots F_points F_walls F_across F_bareLight)) (hS : va_S A s.heap H locs) {ls : Array Slot} (hl : lv_has ls 4 [(0, .ref a_F), (1, .int p1), (2, .int p2), (3, .int p3)]) : W p l e rm_X1_priceOf s m args below meth c H locs 0 0 (MQ below (kQI D (kTY cI cC cZ) A rr (WD2 cI cC cZ a_F a_F_table a_F_spots a_F_points a_F_walls a_F_across a_F_bareLight F_glow F_spotCount F_pointCount F_wallCount F_table F_spots F_points F_walls F_across F_bareLight)) args s 0 0 A) (F0 m 4 ls []) := by
  obtain ⟨hx, hb, hr, hml, hown, hts, hK, hN, hA, hlocks, hF⟩ := id C0
  unfold bk_X1_priceOf_4 at h
  refine lv_iload_n hx hb dX1_priceOf_4 rfl (lv_at hl 3 rfl) ?_
  refine lv_aload_n hx hb dX1_priceOf_5 rfl (lv_at hl 0 rfl) ?_
  refine va_get (D := D) (ci := 1) (v := .int F_spotCount) (C := RX1) (T := TX1) (N := 10) hx hb hts inlX1 hown hK hP 0 rfl rfl 7 (by decide) (hts _ kw_207) (fun _ h9 => h9) rfl dX1_priceOf_6 ?_
  refine lv_icmp_ge (tgt := 35) hx hb dX1_priceOf_9 (by decide) (fun c1 => ?_) (fun c1 => ?_)
  · have h := oc_t c1 h
    refine lv_iload_n hx hb dX1_priceOf_35 rfl (lv_at hl 2 rfl) ?_
    cases h
    exact kret_i C0 hP hD hS rfl dX1_priceOf_36
  · have h := oc_f c1 h
    refine lv_iload_n hx hb dX1_priceOf_12 rfl (lv_at hl 1 rfl) ?_
    refine lv_iload_n hx hb dX1_priceOf_13 rfl (lv_at hl 3 rfl) ?_
    refine lv_ishr hx hb dX1_priceOf_14 ?_
    refine lv_iconst (v := (1 : Int32)) hx hb dX1_priceOf_15 (by decide) ?_
    refine lv_iand hx hb dX1_priceOf_16 ?_
    refine lv_if_eq (tgt := 29) hx hb dX1_priceOf_17 (by decide) (fun c2 => ?_) (fun c2 => ?_)
    · have h := oc_t c2 h
      obtain ⟨t3, e_t3⟩ : ∃ y : Int32, y = p3 + (1 : Int32) := ⟨_, rfl⟩
      have h := oc_nm e_t3 h
      refine lv_iinc (v := t3) (lv' := [(3, .int t3), (0, .ref a_F), (1, .int p1), (2, .int p2)]) hx hb dX1_priceOf_29 hl (k := 3) rfl (by rw [e_t3]; rfl) (by decide) rfl (fun ls hl => ?_)
      refine lv_goto (tgt := 4) hx hb dX1_priceOf_32 (by decide) ?_
      exact hk4 _ _ h _ _ hP hD hS _ (lv_sub hl [1, 2, 3, 0] rfl)
    · have h := oc_f c2 h
      refine lv_iload_n hx hb dX1_priceOf_20 rfl (lv_at hl 2 rfl) ?_
      refine lv_aload_n hx hb dX1_priceOf_21 rfl (lv_at hl 0 rfl) ?_
      refine lv_iload_n hx hb dX1_priceOf_22 rfl (lv_at hl 3 rfl) ?_
      refine lv_iconst (v := (3 : Int32)) hx hb dX1_priceOf_23 (by decide) ?_
      obtain ⟨r5, hc4, h⟩ := oc_bind h
      refine kro_i (wc := (WD2 cI cC cZ a_F a_F_table a_F_spots a_F_points a_F_walls a_F_across a_F_bareLight F_glow F_spotCount F_pointCount F_wallCount F_table F_spots F_points F_walls F_across F_bareLight)) C0 hP hD hS [0, 1, 2, 3, 4, 5, 6] rfl (kV (n := 2) (As := [.int p3, .int (3 : Int32)]) (rest := [.int p2]) (wc := (WD2 cI cC cZ a_F a_F_table a_F_spots a_F_points a_F_walls a_F_across a_F_bareLight F_glow F_spotCount F_pointCount F_wallCount F_table F_spots F_points F_walls F_across F_bareLight)) (C := RX1) C0 hP hD hS [0, 1, 2, 3, 4, 5, 6] rfl (by decide) (c_X1_spotFigure l D cI cC cZ a_F a_F_table a_F_spots a_F_points a_F_walls a_F_across a_F_bareLight H.size F_glow F_spotCount F_pointCount F_wallCount F_table F_spots F_points F_walls F_across F_bareLight p3 (3 : Int32) r5 hc4) kw_224 kw_221 kw_222 kw_223 kw_19 (by decide +kernel) (by decide) rfl rfl rfl hl.1 rfl (Nat.le_of_ble_eq_true rfl) ⟨Nat.zero_le _, Nat.zero_le _⟩ dX1_priceOf_24) (fun H locs hP hS => ?_)
      refine lv_iadd hx hb dX1_priceOf_27 ?_
      refine lv_topi (fun t6 e_t6 => ?_)
      have h := oc_nm e_t6 h
      refine lv_istore_n (lv' := [(2, .int t6), (0, .ref a_F), (1, .int p1), (3, .int p3)]) hx hb dX1_priceOf_28 rfl hl (by decide) rfl (fun ls hl => ?_)
      obtain ⟨t7, e_t7⟩ : ∃ y : Int32, y = p3 + (1 : Int32) := ⟨_, rfl⟩
      have h := oc_nm e_t7 h
      refine lv_iinc (v := t7) (lv' := [(3, .int t7), (2, .int t6), (0, .ref a_F), (1, .int p1)]) hx hb dX1_priceOf_29 hl (k := 3) rfl (by rw [e_t7]; rfl) (by decide) rfl (fun ls hl => ?_)
      refine lv_goto (tgt := 4) hx hb dX1_priceOf_32 (by decide) ?_
      exact hk4 _ _ h _ _ hP hD hS _ (lv_sub hl [2, 3, 1, 0] rfl)
noncomputable def lp_X1_priceOf_4  (F_spotCount : Int32) (F_spots : Nat → Int32) (p1 : Int32) (n : Nat) : Int32 → Int32 → Option (Int32) := Nat.rec (motive := fun _ => Int32 → Int32 → Option (Int32)) (fun _ _ => none) (fun _ ih => bk_X1_priceOf_4  ih F_spotCount F_spots p1) n
set_option maxHeartbeats 4000000 in
set_option maxRecDepth 100000 in
theorem wl_X1_priceOf_4 {p : Program} {l : Launch} {e : Env} {s : State} {m : MethodId} {args : Array Value} {below : List Frame} {meth : Method} {c : Code} {D : va_G} {cI cC cZ : ClassId} {A : Nat → Prop} {a_F a_F_table a_F_spots a_F_points a_F_walls a_F_across a_F_bareLight : Nat} {F_glow : Int32} {F_spotCount : Int32} {F_pointCount : Int32} {F_wallCount : Int32} {F_table : Nat → Int32} {F_spots : Nat → Int32} {F_points : Nat → Int32} {F_walls : Nat → Int32} {F_across : Nat → Int32} {F_bareLight : Nat → Int32} {p1 : Int32}  {rr : Int32} (C0 : kC p s m args meth c D (kTY cI cC cZ) cX1_priceOf (some .int) 4 RX1 A)  : ∀ (n : Nat) (p2 : Int32) (p3 : Int32), lp_X1_priceOf_4  F_spotCount F_spots p1 n p2 p3 = some rr → ∀ (H : Heap) (locs : List Loc), va_P D vwCl (WD2 cI cC cZ a_F a_F_table a_F_spots a_F_points a_F_walls a_F_across a_F_bareLight F_glow F_spotCount F_pointCount F_wallCount F_table F_spots F_points F_walls F_across F_bareLight) H → va_D A (WD2 cI cC cZ a_F a_F_table a_F_spots a_F_points a_F_walls a_F_across a_F_bareLight F_glow F_spotCount F_pointCount F_wallCount F_table F_spots F_points F_walls F_across F_bareLight) → va_S A s.heap H locs → ∀ ls : Array Slot, lv_has ls 4 [(0, .ref a_F), (1, .int p1), (2, .int p2), (3, .int p3)] → W p l e rm_X1_priceOf s m args below meth c H locs 0 0 (MQ below (kQI D (kTY cI cC cZ) A rr (WD2 cI cC cZ a_F a_F_table a_F_spots a_F_points a_F_walls a_F_across a_F_bareLight F_glow F_spotCount F_pointCount F_wallCount F_table F_spots F_points F_walls F_across F_bareLight)) args s 0 0 A) (F0 m 4 ls []) := by
  intro n
  induction n with
  | zero => intro p2 p3 h; cases (show (none : Option (Int32)) = some _ from h)
  | succ n ih =>
    intro p2 p3 h H locs hP hD hS ls hl
    exact wk_X1_priceOf_4 C0  (fun p2 p3 h H locs hP hD hS ls hl => ih p2 p3 h H locs hP hD hS ls hl) (show bk_X1_priceOf_4  (lp_X1_priceOf_4  F_spotCount F_spots p1 n) F_spotCount F_spots p1 p2 p3 = some _ from h) hP hD hS hl
noncomputable def f_X1_priceOf (F_spotCount : Int32) (F_spots : Nat → Int32) (p1 : Int32) : Option (Int32) := lp_X1_priceOf_4  F_spotCount F_spots p1 1000 (0 : Int32) (0 : Int32)
set_option maxHeartbeats 4000000 in
set_option maxRecDepth 100000 in
theorem c_X1_priceOf (l : Launch) (D : va_G) (cI cC cZ : ClassId) (a_F a_F_table a_F_spots a_F_points a_F_walls a_F_across a_F_bareLight : Nat) (sz : Nat) (F_glow : Int32) (F_spotCount : Int32) (F_pointCount : Int32) (F_wallCount : Int32) (F_table : Nat → Int32) (F_spots : Nat → Int32) (F_points : Nat → Int32) (F_walls : Nat → Int32) (F_across : Nat → Int32) (F_bareLight : Nat → Int32) (p1 : Int32) (rr : Int32) (hf : f_X1_priceOf F_spotCount F_spots p1 = some rr) : kMet l yX1_priceOf cX1_priceOf 4 (some .int) rm_X1_priceOf D (kTY cI cC cZ) [.ref a_F, .int p1] (WD2 cI cC cZ a_F a_F_table a_F_spots a_F_points a_F_walls a_F_across a_F_bareLight F_glow F_spotCount F_pointCount F_wallCount F_table F_spots F_points F_walls F_across F_bareLight) sz (kQI D (kTY cI cC cZ) (va_A (WD2 cI cC cZ a_F a_F_table a_F_spots a_F_points a_F_walls a_F_across a_F_bareLight F_glow F_spotCount F_pointCount F_wallCount F_table F_spots F_points F_walls F_across F_bareLight) sz) rr (WD2 cI cC cZ a_F a_F_table a_F_spots a_F_points a_F_walls a_F_across a_F_bareLight F_glow F_spotCount F_pointCount F_wallCount F_table F_spots F_points F_walls F_across F_bareLight)) := by
  refine kEnter (lv := [(0, .ref a_F), (1, .int p1)]) (own := RX1) (by decide) rfl (Nat.le_of_ble_eq_true rfl) rfl ?_
  intro p e s m below meth c hsz C0 hP hD hS ls hl
  generalize (va_A (WD2 cI cC cZ a_F a_F_table a_F_spots a_F_points a_F_walls a_F_across a_F_bareLight F_glow F_spotCount F_pointCount F_wallCount F_table F_spots F_points F_walls F_across F_bareLight) sz) = A at C0 hD hS ⊢
  clear hsz hS
  obtain ⟨H, hHs⟩ : ∃ H : Heap, H = s.heap := ⟨_, rfl⟩
  have hS : va_S A s.heap H [] := by rw [hHs]; exact va_S.rf
  rw [← hHs] at hP ⊢
  obtain ⟨hx, hb, hr, hml, hown, hts, hK, hN, hA, hlocks, hF⟩ := id C0
  have h := hf
  unfold f_X1_priceOf at h
  refine lv_iconst (v := (0 : Int32)) hx hb dX1_priceOf_0 (by decide) ?_
  refine lv_istore_n (lv' := [(2, .int (0 : Int32)), (0, .ref a_F), (1, .int p1)]) hx hb dX1_priceOf_1 rfl hl (by decide) rfl (fun ls hl => ?_)
  refine lv_iconst (v := (0 : Int32)) hx hb dX1_priceOf_2 (by decide) ?_
  refine lv_istore_n (lv' := [(3, .int (0 : Int32)), (2, .int (0 : Int32)), (0, .ref a_F), (1, .int p1)]) hx hb dX1_priceOf_3 rfl hl (by decide) rfl (fun ls hl => ?_)
  exact wl_X1_priceOf_4 C0  _ _ _ h _ _ hP hD hS _ (lv_sub hl [2, 3, 1, 0] rfl)
abbrev WD6 (cI cC cZ : ClassId) (a_L a_L_wants a_F a_F_table a_F_spots a_F_points a_F_walls a_F_across a_F_bareLight : Nat) (L_hung : Int32) (L_dead : Int32) (L_standing : Int32) (L_wants : Nat → Int32) (F_glow : Int32) (F_spotCount : Int32) (F_pointCount : Int32) (F_wallCount : Int32) (F_table : Nat → Int32) (F_spots : Nat → Int32) (F_points : Nat → Int32) (F_walls : Nat → Int32) (F_across : Nat → Int32) (F_bareLight : Nat → Int32) : va_W := [(a_L, .inr (2, [.ref a_F, .ref a_L_wants, .int L_hung, .int L_dead, .int L_standing])), (a_L_wants, .inl (cI, 6, .inl L_wants)), (a_F, .inr (1, [.ref a_F_table, .ref a_F_spots, .ref a_F_points, .ref a_F_walls, .ref a_F_across, .ref a_F_bareLight, .int F_glow, .int F_spotCount, .int F_pointCount, .int F_wallCount])), (a_F_table, .inl (cI, 10, .inl F_table)), (a_F_spots, .inl (cI, 32, .inl F_spots)), (a_F_points, .inl (cI, 24, .inl F_points)), (a_F_walls, .inl (cI, 20, .inl F_walls)), (a_F_across, .inl (cI, 48, .inl F_across)), (a_F_bareLight, .inl (cI, 48, .inl F_bareLight))]
abbrev rm_X2_begin : Room := { frames := 3, cells := 0, slots := 0, locals := 66 }
noncomputable def bk_X2_begin_27 (k27 : (Nat → Int32) → Int32 → Option (Int32 × Int32 × Int32 × (Nat → Int32))) (L_hung : Int32) (L_dead : Int32) (L_standing : Int32) (F_pointCount : Int32) (F_points : Nat → Int32) (L_wants : Nat → Int32) (p1 : Int32) : Option (Int32 × Int32 × Int32 × (Nat → Int32)) := if (6 : Int32) ≤ p1 then (some (L_hung, L_dead, L_standing, L_wants)) else ((f_X1_hasPoint F_pointCount p1).bind (fun r3 => if r3 = 0 then (if (p1 < 0 ∨ 6 ≤ Int32.toNatClampNeg p1) then none else (nm_ (p1 + (1 : Int32)) (fun t6 => k27 (upd L_wants (Int32.toNatClampNeg p1) (0 : Int32)) t6))) else ((f_X1_firstWant F_points p1).bind (fun r8 => if (p1 < 0 ∨ 6 ≤ Int32.toNatClampNeg p1) then none else (nm_ (p1 + (1 : Int32)) (fun t10 => k27 (upd L_wants (Int32.toNatClampNeg p1) r8) t10))))))
set_option maxHeartbeats 4000000 in
set_option maxRecDepth 100000 in
theorem wk_X2_begin_27 {p : Program} {l : Launch} {e : Env} {s : State} {m : MethodId} {args : Array Value} {below : List Frame} {meth : Method} {c : Code} {D : va_G} {cI cC cZ : ClassId} {A : Nat → Prop} {a_L a_L_wants a_F a_F_table a_F_spots a_F_points a_F_walls a_F_across a_F_bareLight : Nat} {L_hung : Int32} {L_dead : Int32} {L_standing : Int32} {L_wants : Nat → Int32} {F_glow : Int32} {F_spotCount : Int32} {F_pointCount : Int32} {F_wallCount : Int32} {F_table : Nat → Int32} {F_spots : Nat → Int32} {F_points : Nat → Int32} {F_walls : Nat → Int32} {F_across : Nat → Int32} {F_bareLight : Nat → Int32} {p1 : Int32} {k27 : (Nat → Int32) → Int32 → Option (Int32 × Int32 × Int32 × (Nat → Int32))} {u_L_hung : Int32} {u_L_dead : Int32} {u_L_standing : Int32} {u_L_wants : Nat → Int32} (C0 : kC p s m args meth c D (kTY cI cC cZ) cX2_begin none 2 RX2 A) (hk27 : ∀ (L_wants_k : Nat → Int32) (p1_k : Int32), k27 L_wants_k p1_k = some (u_L_hung, u_L_dead, u_L_standing, u_L_wants) → ∀ (H : Heap) (locs : List Loc), va_P D vwCl (WD6 cI cC cZ a_L a_L_wants a_F a_F_table a_F_spots a_F_points a_F_walls a_F_across a_F_bareLight L_hung L_dead L_standing L_wants_k F_glow F_spotCount F_pointCount F_wallCount F_table F_spots F_points F_walls F_across F_bareLight) H → va_D A (WD6 cI cC cZ a_L a_L_wants a_F a_F_table a_F_spots a_F_points a_F_walls a_F_across a_F_bareLight L_hung L_dead L_standing L_wants_k F_glow F_spotCount F_pointCount F_wallCount F_table F_spots F_points F_walls F_across F_bareLight) → va_S A s.heap H locs → ∀ ls : Array Slot, lv_has ls 2 [(0, .ref a_L), (1, .int p1_k)] → W p l e rm_X2_begin s m args below meth c H locs 0 0 (MQ below (kQV D (kTY cI cC cZ) A (WD6 cI cC cZ a_L a_L_wants a_F a_F_table a_F_spots a_F_points a_F_walls a_F_across a_F_bareLight u_L_hung u_L_dead u_L_standing u_L_wants F_glow F_spotCount F_pointCount F_wallCount F_table F_spots F_points F_walls F_across F_bareLight)) args s 0 0 A) (F0 m 27 ls [])) (h : bk_X2_begin_27 k27 L_hung L_dead L_standing F_pointCount F_points L_wants p1 = some (u_L_hung, u_L_dead, u_L_standing, u_L_wants)) {H : Heap} {locs : List Loc} (hP : va_P D vwCl (WD6 cI cC cZ a_L a_L_wants a_F a_F_table a_F_spots a_F_points a_F_walls a_F_across a_F_bareLight L_hung L_dead L_standing L_wants F_glow F_spotCount F_pointCount F_wallCount F_table F_spots F_points F_walls F_across F_bareLight) H) (hD : va_D A (WD6 cI cC cZ a_L a_L_wants a_F a_F_table a_F_spots a_F_points a_F_walls a_F_across a_F_bareLight L_hung L_dead L_standing L_wants F_glow F_spotCount F_pointCount F_wallCount F_table F_spots F_points F_walls F_across F_bareLight)) (hS : va_S A s.heap H locs) {ls : Array Slot} (hl : lv_has ls 2 [(0, .ref a_L), (1, .int p1)]) : W p l e rm_X2_begin s m args below meth c H locs 0 0 (MQ below (kQV D (kTY cI cC cZ) A (WD6 cI cC cZ a_L a_L_wants a_F a_F_table a_F_spots a_F_points a_F_walls a_F_across a_F_bareLight u_L_hung u_L_dead u_L_standing u_L_wants F_glow F_spotCount F_pointCount F_wallCount F_table F_spots F_points F_walls F_across F_bareLight)) args s 0 0 A) (F0 m 27 ls []) := by
  obtain ⟨hx, hb, hr, hml, hown, hts, hK, hN, hA, hlocks, hF⟩ := id C0
  unfold bk_X2_begin_27 at h
  refine lv_iload_n hx hb dX2_begin_27 rfl (lv_at hl 1 rfl) ?_
  refine lv_bipush (v := (6 : Int32)) hx hb dX2_begin_28 (by decide) ?_
  refine lv_icmp_ge (tgt := 68) hx hb dX2_begin_30 (by decide) (fun c1 => ?_) (fun c1 => ?_)
  · have h := oc_t c1 h
    cases h
    exact kret_v C0 hP hD hS dX2_begin_68
  · have h := oc_f c1 h
    refine lv_aload_n hx hb dX2_begin_33 rfl (lv_at hl 0 rfl) ?_
    refine va_get (D := D) (ci := 2) (v := .ref a_L_wants) (C := RX2) (T := TX2) (N := 5) hx hb hts inlX2 hown hK hP 0 rfl rfl 1 (by decide) (hts _ kw_59) (fun _ h9 => h9) rfl dX2_begin_34 ?_
    refine lv_iload_n hx hb dX2_begin_37 rfl (lv_at hl 1 rfl) ?_
    refine lv_aload_n hx hb dX2_begin_38 rfl (lv_at hl 0 rfl) ?_
    refine va_get (D := D) (ci := 2) (v := .ref a_F) (C := RX2) (T := TX2) (N := 5) hx hb hts inlX2 hown hK hP 0 rfl rfl 0 (by decide) (hts _ kw_60) (fun _ h9 => h9) rfl dX2_begin_39 ?_
    refine lv_iload_n hx hb dX2_begin_42 rfl (lv_at hl 1 rfl) ?_
    obtain ⟨r3, hc2, h⟩ := oc_bind h
    refine kro_i (wc := (WD2 cI cC cZ a_F a_F_table a_F_spots a_F_points a_F_walls a_F_across a_F_bareLight F_glow F_spotCount F_pointCount F_wallCount F_table F_spots F_points F_walls F_across F_bareLight)) C0 hP hD hS [2, 3, 4, 5, 6, 7, 8] rfl (kVN (n := 1) (As := [.int p1]) (rest := [.int p1, .ref a_L_wants]) (wc := (WD2 cI cC cZ a_F a_F_table a_F_spots a_F_points a_F_walls a_F_across a_F_bareLight F_glow F_spotCount F_pointCount F_wallCount F_table F_spots F_points F_walls F_across F_bareLight)) (C := RX1) C0 hP hD hS [2, 3, 4, 5, 6, 7, 8] rfl (by decide) (c_X1_hasPoint l D cI cC cZ a_F a_F_table a_F_spots a_F_points a_F_walls a_F_across a_F_bareLight H.size F_glow F_spotCount F_pointCount F_wallCount F_table F_spots F_points F_walls F_across F_bareLight p1 r3 hc2) kw_261 (ks_m12 hN) kw_259 kw_260 kw_19 (by decide +kernel) (by decide) rfl rfl rfl hl.1 rfl (Nat.le_of_ble_eq_true rfl) ⟨Nat.zero_le _, Nat.zero_le _⟩ dX2_begin_43) (fun H locs hP hS => ?_)
    refine lv_if_eq (tgt := 60) hx hb dX2_begin_46 (by decide) (fun c4 => ?_) (fun c4 => ?_)
    · have h := oc_t c4 h
      refine lv_iconst (v := (0 : Int32)) hx hb dX2_begin_60 (by decide) ?_
      obtain ⟨hb5, h⟩ := oc_else h
      refine va_iast hx hb hK hP hD hS 1 0 rfl rfl hb5 dX2_begin_61 (fun H locs hP hD hS => ?_)
      have hP : va_P D vwCl (WD6 cI cC cZ a_L a_L_wants a_F a_F_table a_F_spots a_F_points a_F_walls a_F_across a_F_bareLight L_hung L_dead L_standing (upd L_wants (Int32.toNatClampNeg p1) (0 : Int32)) F_glow F_spotCount F_pointCount F_wallCount F_table F_spots F_points F_walls F_across F_bareLight) H := hP
      have hD : va_D A (WD6 cI cC cZ a_L a_L_wants a_F a_F_table a_F_spots a_F_points a_F_walls a_F_across a_F_bareLight L_hung L_dead L_standing (upd L_wants (Int32.toNatClampNeg p1) (0 : Int32)) F_glow F_spotCount F_pointCount F_wallCount F_table F_spots F_points F_walls F_across F_bareLight) := hD
      obtain ⟨t6, e_t6⟩ : ∃ y : Int32, y = p1 + (1 : Int32) := ⟨_, rfl⟩
      have h := oc_nm e_t6 h
      refine lv_iinc (v := t6) (lv' := [(1, .int t6), (0, .ref a_L)]) hx hb dX2_begin_62 hl (k := 1) rfl (by rw [e_t6]; rfl) (by decide) rfl (fun ls hl => ?_)
      refine lv_goto (tgt := 27) hx hb dX2_begin_65 (by decide) ?_
      exact hk27 _ _ h _ _ hP hD hS _ (lv_sub hl [1, 0] rfl)
    · have h := oc_f c4 h
      refine lv_aload_n hx hb dX2_begin_49 rfl (lv_at hl 0 rfl) ?_
      refine va_get (D := D) (ci := 2) (v := .ref a_F) (C := RX2) (T := TX2) (N := 5) hx hb hts inlX2 hown hK hP 0 rfl rfl 0 (by decide) (hts _ kw_60) (fun _ h9 => h9) rfl dX2_begin_50 ?_
      refine lv_iload_n hx hb dX2_begin_53 rfl (lv_at hl 1 rfl) ?_
      obtain ⟨r8, hc7, h⟩ := oc_bind h
      refine kro_i (wc := (WD2 cI cC cZ a_F a_F_table a_F_spots a_F_points a_F_walls a_F_across a_F_bareLight F_glow F_spotCount F_pointCount F_wallCount F_table F_spots F_points F_walls F_across F_bareLight)) C0 hP hD hS [2, 3, 4, 5, 6, 7, 8] rfl (kVN (n := 1) (As := [.int p1]) (rest := [.int p1, .ref a_L_wants]) (wc := (WD2 cI cC cZ a_F a_F_table a_F_spots a_F_points a_F_walls a_F_across a_F_bareLight F_glow F_spotCount F_pointCount F_wallCount F_table F_spots F_points F_walls F_across F_bareLight)) (C := RX1) C0 hP hD hS [2, 3, 4, 5, 6, 7, 8] rfl (by decide) (c_X1_firstWant l D cI cC cZ a_F a_F_table a_F_spots a_F_points a_F_walls a_F_across a_F_bareLight H.size F_glow F_spotCount F_pointCount F_wallCount F_table F_spots F_points F_walls F_across F_bareLight p1 r8 hc7) kw_264 (ks_m13 hN) kw_262 kw_263 kw_19 (by decide +kernel) (by decide) rfl rfl rfl hl.1 rfl (Nat.le_of_ble_eq_true rfl) ⟨Nat.zero_le _, Nat.zero_le _⟩ dX2_begin_54) (fun H locs hP hS => ?_)
      refine lv_goto (tgt := 61) hx hb dX2_begin_57 (by decide) ?_
      obtain ⟨hb9, h⟩ := oc_else h
      refine va_iast hx hb hK hP hD hS 1 0 rfl rfl hb9 dX2_begin_61 (fun H locs hP hD hS => ?_)
      have hP : va_P D vwCl (WD6 cI cC cZ a_L a_L_wants a_F a_F_table a_F_spots a_F_points a_F_walls a_F_across a_F_bareLight L_hung L_dead L_standing (upd L_wants (Int32.toNatClampNeg p1) r8) F_glow F_spotCount F_pointCount F_wallCount F_table F_spots F_points F_walls F_across F_bareLight) H := hP
      have hD : va_D A (WD6 cI cC cZ a_L a_L_wants a_F a_F_table a_F_spots a_F_points a_F_walls a_F_across a_F_bareLight L_hung L_dead L_standing (upd L_wants (Int32.toNatClampNeg p1) r8) F_glow F_spotCount F_pointCount F_wallCount F_table F_spots F_points F_walls F_across F_bareLight) := hD
      obtain ⟨t10, e_t10⟩ : ∃ y : Int32, y = p1 + (1 : Int32) := ⟨_, rfl⟩
      have h := oc_nm e_t10 h
      refine lv_iinc (v := t10) (lv' := [(1, .int t10), (0, .ref a_L)]) hx hb dX2_begin_62 hl (k := 1) rfl (by rw [e_t10]; rfl) (by decide) rfl (fun ls hl => ?_)
      refine lv_goto (tgt := 27) hx hb dX2_begin_65 (by decide) ?_
      exact hk27 _ _ h _ _ hP hD hS _ (lv_sub hl [1, 0] rfl)
noncomputable def lp_X2_begin_27  (L_hung : Int32) (L_dead : Int32) (L_standing : Int32) (F_pointCount : Int32) (F_points : Nat → Int32) (n : Nat) : (Nat → Int32) → Int32 → Option (Int32 × Int32 × Int32 × (Nat → Int32)) := Nat.rec (motive := fun _ => (Nat → Int32) → Int32 → Option (Int32 × Int32 × Int32 × (Nat → Int32))) (fun _ _ => none) (fun _ ih => bk_X2_begin_27  ih L_hung L_dead L_standing F_pointCount F_points) n
set_option maxHeartbeats 4000000 in
set_option maxRecDepth 100000 in
theorem wl_X2_begin_27 {p : Program} {l : Launch} {e : Env} {s : State} {m : MethodId} {args : Array Value} {below : List Frame} {meth : Method} {c : Code} {D : va_G} {cI cC cZ : ClassId} {A : Nat → Prop} {a_L a_L_wants a_F a_F_table a_F_spots a_F_points a_F_walls a_F_across a_F_bareLight : Nat} {L_hung : Int32} {L_dead : Int32} {L_standing : Int32} {F_glow : Int32} {F_spotCount : Int32} {F_pointCount : Int32} {F_wallCount : Int32} {F_table : Nat → Int32} {F_spots : Nat → Int32} {F_points : Nat → Int32} {F_walls : Nat → Int32} {F_across : Nat → Int32} {F_bareLight : Nat → Int32}  {u_L_hung : Int32} {u_L_dead : Int32} {u_L_standing : Int32} {u_L_wants : Nat → Int32} (C0 : kC p s m args meth c D (kTY cI cC cZ) cX2_begin none 2 RX2 A)  : ∀ (n : Nat) (L_wants : Nat → Int32) (p1 : Int32), lp_X2_begin_27  L_hung L_dead L_standing F_pointCount F_points n L_wants p1 = some (u_L_hung, u_L_dead, u_L_standing, u_L_wants) → ∀ (H : Heap) (locs : List Loc), va_P D vwCl (WD6 cI cC cZ a_L a_L_wants a_F a_F_table a_F_spots a_F_points a_F_walls a_F_across a_F_bareLight L_hung L_dead L_standing L_wants F_glow F_spotCount F_pointCount F_wallCount F_table F_spots F_points F_walls F_across F_bareLight) H → va_D A (WD6 cI cC cZ a_L a_L_wants a_F a_F_table a_F_spots a_F_points a_F_walls a_F_across a_F_bareLight L_hung L_dead L_standing L_wants F_glow F_spotCount F_pointCount F_wallCount F_table F_spots F_points F_walls F_across F_bareLight) → va_S A s.heap H locs → ∀ ls : Array Slot, lv_has ls 2 [(0, .ref a_L), (1, .int p1)] → W p l e rm_X2_begin s m args below meth c H locs 0 0 (MQ below (kQV D (kTY cI cC cZ) A (WD6 cI cC cZ a_L a_L_wants a_F a_F_table a_F_spots a_F_points a_F_walls a_F_across a_F_bareLight u_L_hung u_L_dead u_L_standing u_L_wants F_glow F_spotCount F_pointCount F_wallCount F_table F_spots F_points F_walls F_across F_bareLight)) args s 0 0 A) (F0 m 27 ls []) := by
  intro n
  induction n with
  | zero => intro L_wants p1 h; cases (show (none : Option (Int32 × Int32 × Int32 × (Nat → Int32))) = some _ from h)
  | succ n ih =>
    intro L_wants p1 h H locs hP hD hS ls hl
    exact wk_X2_begin_27 C0  (fun L_wants p1 h H locs hP hD hS ls hl => ih L_wants p1 h H locs hP hD hS ls hl) (show bk_X2_begin_27  (lp_X2_begin_27  L_hung L_dead L_standing F_pointCount F_points n) L_hung L_dead L_standing F_pointCount F_points L_wants p1 = some _ from h) hP hD hS hl
noncomputable def f_X2_begin (L_hung : Int32) (L_dead : Int32) (L_standing : Int32) (L_wants : Nat → Int32) (F_pointCount : Int32) (F_wallCount : Int32) (F_points : Nat → Int32)  : Option (Int32 × Int32 × Int32 × (Nat → Int32)) := nm_ (((1 : Int32) <<< (F_wallCount &&& 31)) - (1 : Int32)) (fun t1 => lp_X2_begin_27  (0 : Int32) (0 : Int32) t1 F_pointCount F_points 1000 L_wants (0 : Int32))
set_option maxHeartbeats 4000000 in
set_option maxRecDepth 100000 in
theorem c_X2_begin (l : Launch) (D : va_G) (cI cC cZ : ClassId) (a_L a_L_wants a_F a_F_table a_F_spots a_F_points a_F_walls a_F_across a_F_bareLight : Nat) (sz : Nat) (L_hung : Int32) (L_dead : Int32) (L_standing : Int32) (L_wants : Nat → Int32) (F_glow : Int32) (F_spotCount : Int32) (F_pointCount : Int32) (F_wallCount : Int32) (F_table : Nat → Int32) (F_spots : Nat → Int32) (F_points : Nat → Int32) (F_walls : Nat → Int32) (F_across : Nat → Int32) (F_bareLight : Nat → Int32) (u_L_hung : Int32) (u_L_dead : Int32) (u_L_standing : Int32) (u_L_wants : Nat → Int32) (hf : f_X2_begin L_hung L_dead L_standing L_wants F_pointCount F_wallCount F_points = some (u_L_hung, u_L_dead, u_L_standing, u_L_wants)) : kMet l yX2_begin cX2_begin 2 none rm_X2_begin D (kTY cI cC cZ) [.ref a_L] (WD6 cI cC cZ a_L a_L_wants a_F a_F_table a_F_spots a_F_points a_F_walls a_F_across a_F_bareLight L_hung L_dead L_standing L_wants F_glow F_spotCount F_pointCount F_wallCount F_table F_spots F_points F_walls F_across F_bareLight) sz (kQV D (kTY cI cC cZ) (va_A (WD6 cI cC cZ a_L a_L_wants a_F a_F_table a_F_spots a_F_points a_F_walls a_F_across a_F_bareLight L_hung L_dead L_standing L_wants F_glow F_spotCount F_pointCount F_wallCount F_table F_spots F_points F_walls F_across F_bareLight) sz) (WD6 cI cC cZ a_L a_L_wants a_F a_F_table a_F_spots a_F_points a_F_walls a_F_across a_F_bareLight u_L_hung u_L_dead u_L_standing u_L_wants F_glow F_spotCount F_pointCount F_wallCount F_table F_spots F_points F_walls F_across F_bareLight)) := by
  refine kEnter (lv := [(0, .ref a_L)]) (own := RX2) (by decide) rfl (Nat.le_of_ble_eq_true rfl) rfl ?_
  intro p e s m below meth c hsz C0 hP hD hS ls hl
  generalize (va_A (WD6 cI cC cZ a_L a_L_wants a_F a_F_table a_F_spots a_F_points a_F_walls a_F_across a_F_bareLight L_hung L_dead L_standing L_wants F_glow F_spotCount F_pointCount F_wallCount F_table F_spots F_points F_walls F_across F_bareLight) sz) = A at C0 hD hS ⊢
  clear hsz hS
  obtain ⟨H, hHs⟩ : ∃ H : Heap, H = s.heap := ⟨_, rfl⟩
  have hS : va_S A s.heap H [] := by rw [hHs]; exact va_S.rf
  rw [← hHs] at hP ⊢
  obtain ⟨hx, hb, hr, hml, hown, hts, hK, hN, hA, hlocks, hF⟩ := id C0
  have h := hf
  unfold f_X2_begin at h
  refine lv_aload_n hx hb dX2_begin_0 rfl (lv_at hl 0 rfl) ?_
  refine lv_iconst (v := (0 : Int32)) hx hb dX2_begin_1 (by decide) ?_
  refine va_put (D := D) (ci := 2) (v := .int (0 : Int32)) (ty := .int) (C := RX2) (T := TX2) (N := 5) hx hb hts inlX2 tyX2 tyX2_ok nmX2 hown hK hP hD hS 0 rfl rfl 2 (by decide) (hts _ kw_256) (fun _ h9 => h9) rfl (by decide +kernel) rfl rfl (Nat.le_of_ble_eq_true rfl) dX2_begin_2 (fun H locs hP hD hS => ?_)
  have hP : va_P D vwCl (WD6 cI cC cZ a_L a_L_wants a_F a_F_table a_F_spots a_F_points a_F_walls a_F_across a_F_bareLight (0 : Int32) L_dead L_standing L_wants F_glow F_spotCount F_pointCount F_wallCount F_table F_spots F_points F_walls F_across F_bareLight) H := hP
  have hD : va_D A (WD6 cI cC cZ a_L a_L_wants a_F a_F_table a_F_spots a_F_points a_F_walls a_F_across a_F_bareLight (0 : Int32) L_dead L_standing L_wants F_glow F_spotCount F_pointCount F_wallCount F_table F_spots F_points F_walls F_across F_bareLight) := hD
  refine lv_aload_n hx hb dX2_begin_5 rfl (lv_at hl 0 rfl) ?_
  refine lv_iconst (v := (0 : Int32)) hx hb dX2_begin_6 (by decide) ?_
  refine va_put (D := D) (ci := 2) (v := .int (0 : Int32)) (ty := .int) (C := RX2) (T := TX2) (N := 5) hx hb hts inlX2 tyX2 tyX2_ok nmX2 hown hK hP hD hS 0 rfl rfl 3 (by decide) (hts _ kw_257) (fun _ h9 => h9) rfl (by decide +kernel) rfl rfl (Nat.le_of_ble_eq_true rfl) dX2_begin_7 (fun H locs hP hD hS => ?_)
  have hP : va_P D vwCl (WD6 cI cC cZ a_L a_L_wants a_F a_F_table a_F_spots a_F_points a_F_walls a_F_across a_F_bareLight (0 : Int32) (0 : Int32) L_standing L_wants F_glow F_spotCount F_pointCount F_wallCount F_table F_spots F_points F_walls F_across F_bareLight) H := hP
  have hD : va_D A (WD6 cI cC cZ a_L a_L_wants a_F a_F_table a_F_spots a_F_points a_F_walls a_F_across a_F_bareLight (0 : Int32) (0 : Int32) L_standing L_wants F_glow F_spotCount F_pointCount F_wallCount F_table F_spots F_points F_walls F_across F_bareLight) := hD
  refine lv_aload_n hx hb dX2_begin_10 rfl (lv_at hl 0 rfl) ?_
  refine lv_iconst (v := (1 : Int32)) hx hb dX2_begin_11 (by decide) ?_
  refine lv_aload_n hx hb dX2_begin_12 rfl (lv_at hl 0 rfl) ?_
  refine va_get (D := D) (ci := 2) (v := .ref a_F) (C := RX2) (T := TX2) (N := 5) hx hb hts inlX2 hown hK hP 0 rfl rfl 0 (by decide) (hts _ kw_60) (fun _ h9 => h9) rfl dX2_begin_13 ?_
  refine va_getN (D := D) (ci := 1) (v := .int F_wallCount) (C := RX1) (T := TX1) (N := 10) hx hb hts inlX1 hown hK hP 2 rfl rfl 9 (by decide) (va_Nw.use rfl (ks_f9 hN)) (fun _ h9 => h9) rfl dX2_begin_16 ?_
  refine lv_ishl hx hb dX2_begin_19 ?_
  refine lv_iconst (v := (1 : Int32)) hx hb dX2_begin_20 (by decide) ?_
  refine lv_isub hx hb dX2_begin_21 ?_
  refine lv_topi (fun t1 e_t1 => ?_)
  have h := oc_nm e_t1 h
  refine va_put (D := D) (ci := 2) (v := .int t1) (ty := .int) (C := RX2) (T := TX2) (N := 5) hx hb hts inlX2 tyX2 tyX2_ok nmX2 hown hK hP hD hS 0 rfl rfl 4 (by decide) (hts _ kw_258) (fun _ h9 => h9) rfl (by decide +kernel) rfl rfl (Nat.le_of_ble_eq_true rfl) dX2_begin_22 (fun H locs hP hD hS => ?_)
  have hP : va_P D vwCl (WD6 cI cC cZ a_L a_L_wants a_F a_F_table a_F_spots a_F_points a_F_walls a_F_across a_F_bareLight (0 : Int32) (0 : Int32) t1 L_wants F_glow F_spotCount F_pointCount F_wallCount F_table F_spots F_points F_walls F_across F_bareLight) H := hP
  have hD : va_D A (WD6 cI cC cZ a_L a_L_wants a_F a_F_table a_F_spots a_F_points a_F_walls a_F_across a_F_bareLight (0 : Int32) (0 : Int32) t1 L_wants F_glow F_spotCount F_pointCount F_wallCount F_table F_spots F_points F_walls F_across F_bareLight) := hD
  refine lv_iconst (v := (0 : Int32)) hx hb dX2_begin_25 (by decide) ?_
  refine lv_istore_n (lv' := [(1, .int (0 : Int32)), (0, .ref a_L)]) hx hb dX2_begin_26 rfl hl (by decide) rfl (fun ls hl => ?_)
  exact wl_X2_begin_27 C0  _ _ _ h _ _ hP hD hS _ (lv_sub hl [1, 0] rfl)
abbrev WD7 (cI cC cZ : ClassId) (a_L a_L_wants a_F a_F_table a_F_spots a_F_points a_F_walls a_F_across a_F_bareLight a_L2 a_L2_wants : Nat) (L_hung : Int32) (L_dead : Int32) (L_standing : Int32) (L_wants : Nat → Int32) (F_glow : Int32) (F_spotCount : Int32) (F_pointCount : Int32) (F_wallCount : Int32) (F_table : Nat → Int32) (F_spots : Nat → Int32) (F_points : Nat → Int32) (F_walls : Nat → Int32) (F_across : Nat → Int32) (F_bareLight : Nat → Int32) (L2_hung : Int32) (L2_dead : Int32) (L2_standing : Int32) (L2_wants : Nat → Int32) : va_W := [(a_L, .inr (2, [.ref a_F, .ref a_L_wants, .int L_hung, .int L_dead, .int L_standing])), (a_L_wants, .inl (cI, 6, .inl L_wants)), (a_F, .inr (1, [.ref a_F_table, .ref a_F_spots, .ref a_F_points, .ref a_F_walls, .ref a_F_across, .ref a_F_bareLight, .int F_glow, .int F_spotCount, .int F_pointCount, .int F_wallCount])), (a_F_table, .inl (cI, 10, .inl F_table)), (a_F_spots, .inl (cI, 32, .inl F_spots)), (a_F_points, .inl (cI, 24, .inl F_points)), (a_F_walls, .inl (cI, 20, .inl F_walls)), (a_F_across, .inl (cI, 48, .inl F_across)), (a_F_bareLight, .inl (cI, 48, .inl F_bareLight)), (a_L2, .inr (2, [.ref a_F, .ref a_L2_wants, .int L2_hung, .int L2_dead, .int L2_standing])), (a_L2_wants, .inl (cI, 6, .inl L2_wants))]
abbrev rm_X2_copyFrom : Room := { frames := 0, cells := 0, slots := 0, locals := 0 }
noncomputable def bk_X2_copyFrom_26 (k26 : (Nat → Int32) → Int32 → Option (Int32 × Int32 × Int32 × (Nat → Int32))) (L_hung : Int32) (L_dead : Int32) (L_standing : Int32) (L2_wants : Nat → Int32) (L_wants : Nat → Int32) (p2 : Int32) : Option (Int32 × Int32 × Int32 × (Nat → Int32)) := if (6 : Int32) ≤ p2 then (some (L_hung, L_dead, L_standing, L_wants)) else (if (p2 < 0 ∨ 6 ≤ Int32.toNatClampNeg p2) then none else (if (p2 < 0 ∨ 6 ≤ Int32.toNatClampNeg p2) then none else (nm_ (p2 + (1 : Int32)) (fun t4 => k26 (upd L_wants (Int32.toNatClampNeg p2) (L2_wants (Int32.toNatClampNeg p2))) t4))))
set_option maxHeartbeats 4000000 in
set_option maxRecDepth 100000 in
theorem wk_X2_copyFrom_26 {p : Program} {l : Launch} {e : Env} {s : State} {m : MethodId} {args : Array Value} {below : List Frame} {meth : Method} {c : Code} {D : va_G} {cI cC cZ : ClassId} {A : Nat → Prop} {a_L a_L_wants a_F a_F_table a_F_spots a_F_points a_F_walls a_F_across a_F_bareLight a_L2 a_L2_wants : Nat} {L_hung : Int32} {L_dead : Int32} {L_standing : Int32} {L_wants : Nat → Int32} {F_glow : Int32} {F_spotCount : Int32} {F_pointCount : Int32} {F_wallCount : Int32} {F_table : Nat → Int32} {F_spots : Nat → Int32} {F_points : Nat → Int32} {F_walls : Nat → Int32} {F_across : Nat → Int32} {F_bareLight : Nat → Int32} {L2_hung : Int32} {L2_dead : Int32} {L2_standing : Int32} {L2_wants : Nat → Int32} {p2 : Int32} {k26 : (Nat → Int32) → Int32 → Option (Int32 × Int32 × Int32 × (Nat → Int32))} {u_L_hung : Int32} {u_L_dead : Int32} {u_L_standing : Int32} {u_L_wants : Nat → Int32} (C0 : kC p s m args meth c D (kTY cI cC cZ) cX2_copyFrom none 3 RX2 A) (hk26 : ∀ (L_wants_k : Nat → Int32) (p2_k : Int32), k26 L_wants_k p2_k = some (u_L_hung, u_L_dead, u_L_standing, u_L_wants) → ∀ (H : Heap) (locs : List Loc), va_P D vwCl (WD7 cI cC cZ a_L a_L_wants a_F a_F_table a_F_spots a_F_points a_F_walls a_F_across a_F_bareLight a_L2 a_L2_wants L_hung L_dead L_standing L_wants_k F_glow F_spotCount F_pointCount F_wallCount F_table F_spots F_points F_walls F_across F_bareLight L2_hung L2_dead L2_standing L2_wants) H → va_D A (WD7 cI cC cZ a_L a_L_wants a_F a_F_table a_F_spots a_F_points a_F_walls a_F_across a_F_bareLight a_L2 a_L2_wants L_hung L_dead L_standing L_wants_k F_glow F_spotCount F_pointCount F_wallCount F_table F_spots F_points F_walls F_across F_bareLight L2_hung L2_dead L2_standing L2_wants) → va_S A s.heap H locs → ∀ ls : Array Slot, lv_has ls 3 [(0, .ref a_L), (1, .ref a_L2), (2, .int p2_k)] → W p l e rm_X2_copyFrom s m args below meth c H locs 0 0 (MQ below (kQV D (kTY cI cC cZ) A (WD7 cI cC cZ a_L a_L_wants a_F a_F_table a_F_spots a_F_points a_F_walls a_F_across a_F_bareLight a_L2 a_L2_wants u_L_hung u_L_dead u_L_standing u_L_wants F_glow F_spotCount F_pointCount F_wallCount F_table F_spots F_points F_walls F_across F_bareLight L2_hung L2_dead L2_standing L2_wants)) args s 0 0 A) (F0 m 26 ls [])) (h : bk_X2_copyFrom_26 k26 L_hung L_dead L_standing L2_wants L_wants p2 = some (u_L_hung, u_L_dead, u_L_standing, u_L_wants)) {H : Heap} {locs : List Loc} (hP : va_P D vwCl (WD7 cI cC cZ a_L a_L_wants a_F a_F_table a_F_spots a_F_points a_F_walls a_F_across a_F_bareLight a_L2 a_L2_wants L_hung L_dead L_standing L_wants F_glow F_spotCount F_pointCount F_wallCount F_table F_spots F_points F_walls F_across F_bareLight L2_hung L2_dead L2_standing L2_wants) H) (hD : va_D A (WD7 cI cC cZ a_L a_L_wants a_F a_F_table a_F_spots a_F_points a_F_walls a_F_across a_F_bareLight a_L2 a_L2_wants L_hung L_dead L_standing L_wants F_glow F_spotCount F_pointCount F_wallCount F_table F_spots F_points F_walls F_across F_bareLight L2_hung L2_dead L2_standing L2_wants)) (hS : va_S A s.heap H locs) {ls : Array Slot} (hl : lv_has ls 3 [(0, .ref a_L), (1, .ref a_L2), (2, .int p2)]) : W p l e rm_X2_copyFrom s m args below meth c H locs 0 0 (MQ below (kQV D (kTY cI cC cZ) A (WD7 cI cC cZ a_L a_L_wants a_F a_F_table a_F_spots a_F_points a_F_walls a_F_across a_F_bareLight a_L2 a_L2_wants u_L_hung u_L_dead u_L_standing u_L_wants F_glow F_spotCount F_pointCount F_wallCount F_table F_spots F_points F_walls F_across F_bareLight L2_hung L2_dead L2_standing L2_wants)) args s 0 0 A) (F0 m 26 ls []) := by
  obtain ⟨hx, hb, hr, hml, hown, hts, hK, hN, hA, hlocks, hF⟩ := id C0
  unfold bk_X2_copyFrom_26 at h
  refine lv_iload_n hx hb dX2_copyFrom_26 rfl (lv_at hl 2 rfl) ?_
  refine lv_bipush (v := (6 : Int32)) hx hb dX2_copyFrom_27 (by decide) ?_
  refine lv_icmp_ge (tgt := 50) hx hb dX2_copyFrom_29 (by decide) (fun c1 => ?_) (fun c1 => ?_)
  · have h := oc_t c1 h
    cases h
    exact kret_v C0 hP hD hS dX2_copyFrom_50
  · have h := oc_f c1 h
    refine lv_aload_n hx hb dX2_copyFrom_32 rfl (lv_at hl 0 rfl) ?_
    refine va_get (D := D) (ci := 2) (v := .ref a_L_wants) (C := RX2) (T := TX2) (N := 5) hx hb hts inlX2 hown hK hP 0 rfl rfl 1 (by decide) (hts _ kw_59) (fun _ h9 => h9) rfl dX2_copyFrom_33 ?_
    refine lv_iload_n hx hb dX2_copyFrom_36 rfl (lv_at hl 2 rfl) ?_
    refine lv_aload_n hx hb dX2_copyFrom_37 rfl (lv_at hl 1 rfl) ?_
    refine va_get (D := D) (ci := 2) (v := .ref a_L2_wants) (C := RX2) (T := TX2) (N := 5) hx hb hts inlX2 hown hK hP 9 rfl rfl 1 (by decide) (hts _ kw_59) (fun _ h9 => h9) rfl dX2_copyFrom_38 ?_
    refine lv_iload_n hx hb dX2_copyFrom_41 rfl (lv_at hl 2 rfl) ?_
    obtain ⟨hb2, h⟩ := oc_else h
    refine va_iald hx hb hK hP 10 0 rfl rfl hb2 dX2_copyFrom_42 ?_
    obtain ⟨hb3, h⟩ := oc_else h
    refine va_iast hx hb hK hP hD hS 1 0 rfl rfl hb3 dX2_copyFrom_43 (fun H locs hP hD hS => ?_)
    have hP : va_P D vwCl (WD7 cI cC cZ a_L a_L_wants a_F a_F_table a_F_spots a_F_points a_F_walls a_F_across a_F_bareLight a_L2 a_L2_wants L_hung L_dead L_standing (upd L_wants (Int32.toNatClampNeg p2) (L2_wants (Int32.toNatClampNeg p2))) F_glow F_spotCount F_pointCount F_wallCount F_table F_spots F_points F_walls F_across F_bareLight L2_hung L2_dead L2_standing L2_wants) H := hP
    have hD : va_D A (WD7 cI cC cZ a_L a_L_wants a_F a_F_table a_F_spots a_F_points a_F_walls a_F_across a_F_bareLight a_L2 a_L2_wants L_hung L_dead L_standing (upd L_wants (Int32.toNatClampNeg p2) (L2_wants (Int32.toNatClampNeg p2))) F_glow F_spotCount F_pointCount F_wallCount F_table F_spots F_points F_walls F_across F_bareLight L2_hung L2_dead L2_standing L2_wants) := hD
    obtain ⟨t4, e_t4⟩ : ∃ y : Int32, y = p2 + (1 : Int32) := ⟨_, rfl⟩
    have h := oc_nm e_t4 h
    refine lv_iinc (v := t4) (lv' := [(2, .int t4), (0, .ref a_L), (1, .ref a_L2)]) hx hb dX2_copyFrom_44 hl (k := 2) rfl (by rw [e_t4]; rfl) (by decide) rfl (fun ls hl => ?_)
    refine lv_goto (tgt := 26) hx hb dX2_copyFrom_47 (by decide) ?_
    exact hk26 _ _ h _ _ hP hD hS _ (lv_sub hl [1, 2, 0] rfl)
noncomputable def lp_X2_copyFrom_26  (L_hung : Int32) (L_dead : Int32) (L_standing : Int32) (L2_wants : Nat → Int32) (n : Nat) : (Nat → Int32) → Int32 → Option (Int32 × Int32 × Int32 × (Nat → Int32)) := Nat.rec (motive := fun _ => (Nat → Int32) → Int32 → Option (Int32 × Int32 × Int32 × (Nat → Int32))) (fun _ _ => none) (fun _ ih => bk_X2_copyFrom_26  ih L_hung L_dead L_standing L2_wants) n
set_option maxHeartbeats 4000000 in
set_option maxRecDepth 100000 in
theorem wl_X2_copyFrom_26 {p : Program} {l : Launch} {e : Env} {s : State} {m : MethodId} {args : Array Value} {below : List Frame} {meth : Method} {c : Code} {D : va_G} {cI cC cZ : ClassId} {A : Nat → Prop} {a_L a_L_wants a_F a_F_table a_F_spots a_F_points a_F_walls a_F_across a_F_bareLight a_L2 a_L2_wants : Nat} {L_hung : Int32} {L_dead : Int32} {L_standing : Int32} {F_glow : Int32} {F_spotCount : Int32} {F_pointCount : Int32} {F_wallCount : Int32} {F_table : Nat → Int32} {F_spots : Nat → Int32} {F_points : Nat → Int32} {F_walls : Nat → Int32} {F_across : Nat → Int32} {F_bareLight : Nat → Int32} {L2_hung : Int32} {L2_dead : Int32} {L2_standing : Int32} {L2_wants : Nat → Int32}  {u_L_hung : Int32} {u_L_dead : Int32} {u_L_standing : Int32} {u_L_wants : Nat → Int32} (C0 : kC p s m args meth c D (kTY cI cC cZ) cX2_copyFrom none 3 RX2 A)  : ∀ (n : Nat) (L_wants : Nat → Int32) (p2 : Int32), lp_X2_copyFrom_26  L_hung L_dead L_standing L2_wants n L_wants p2 = some (u_L_hung, u_L_dead, u_L_standing, u_L_wants) → ∀ (H : Heap) (locs : List Loc), va_P D vwCl (WD7 cI cC cZ a_L a_L_wants a_F a_F_table a_F_spots a_F_points a_F_walls a_F_across a_F_bareLight a_L2 a_L2_wants L_hung L_dead L_standing L_wants F_glow F_spotCount F_pointCount F_wallCount F_table F_spots F_points F_walls F_across F_bareLight L2_hung L2_dead L2_standing L2_wants) H → va_D A (WD7 cI cC cZ a_L a_L_wants a_F a_F_table a_F_spots a_F_points a_F_walls a_F_across a_F_bareLight a_L2 a_L2_wants L_hung L_dead L_standing L_wants F_glow F_spotCount F_pointCount F_wallCount F_table F_spots F_points F_walls F_across F_bareLight L2_hung L2_dead L2_standing L2_wants) → va_S A s.heap H locs → ∀ ls : Array Slot, lv_has ls 3 [(0, .ref a_L), (1, .ref a_L2), (2, .int p2)] → W p l e rm_X2_copyFrom s m args below meth c H locs 0 0 (MQ below (kQV D (kTY cI cC cZ) A (WD7 cI cC cZ a_L a_L_wants a_F a_F_table a_F_spots a_F_points a_F_walls a_F_across a_F_bareLight a_L2 a_L2_wants u_L_hung u_L_dead u_L_standing u_L_wants F_glow F_spotCount F_pointCount F_wallCount F_table F_spots F_points F_walls F_across F_bareLight L2_hung L2_dead L2_standing L2_wants)) args s 0 0 A) (F0 m 26 ls []) := by
  intro n
  induction n with
  | zero => intro L_wants p2 h; cases (show (none : Option (Int32 × Int32 × Int32 × (Nat → Int32))) = some _ from h)
  | succ n ih =>
    intro L_wants p2 h H locs hP hD hS ls hl
    exact wk_X2_copyFrom_26 C0  (fun L_wants p2 h H locs hP hD hS ls hl => ih L_wants p2 h H locs hP hD hS ls hl) (show bk_X2_copyFrom_26  (lp_X2_copyFrom_26  L_hung L_dead L_standing L2_wants n) L_hung L_dead L_standing L2_wants L_wants p2 = some _ from h) hP hD hS hl
noncomputable def f_X2_copyFrom (L_hung : Int32) (L_dead : Int32) (L_standing : Int32) (L_wants : Nat → Int32) (L2_hung : Int32) (L2_dead : Int32) (L2_standing : Int32) (L2_wants : Nat → Int32)  : Option (Int32 × Int32 × Int32 × (Nat → Int32)) := lp_X2_copyFrom_26  L2_hung L2_dead L2_standing L2_wants 1000 L_wants (0 : Int32)
set_option maxHeartbeats 4000000 in
set_option maxRecDepth 100000 in
theorem c_X2_copyFrom (l : Launch) (D : va_G) (cI cC cZ : ClassId) (a_L a_L_wants a_F a_F_table a_F_spots a_F_points a_F_walls a_F_across a_F_bareLight a_L2 a_L2_wants : Nat) (sz : Nat) (L_hung : Int32) (L_dead : Int32) (L_standing : Int32) (L_wants : Nat → Int32) (F_glow : Int32) (F_spotCount : Int32) (F_pointCount : Int32) (F_wallCount : Int32) (F_table : Nat → Int32) (F_spots : Nat → Int32) (F_points : Nat → Int32) (F_walls : Nat → Int32) (F_across : Nat → Int32) (F_bareLight : Nat → Int32) (L2_hung : Int32) (L2_dead : Int32) (L2_standing : Int32) (L2_wants : Nat → Int32) (u_L_hung : Int32) (u_L_dead : Int32) (u_L_standing : Int32) (u_L_wants : Nat → Int32) (hf : f_X2_copyFrom L_hung L_dead L_standing L_wants L2_hung L2_dead L2_standing L2_wants = some (u_L_hung, u_L_dead, u_L_standing, u_L_wants)) : kMet l yX2_copyFrom cX2_copyFrom 3 none rm_X2_copyFrom D (kTY cI cC cZ) [.ref a_L, .ref a_L2] (WD7 cI cC cZ a_L a_L_wants a_F a_F_table a_F_spots a_F_points a_F_walls a_F_across a_F_bareLight a_L2 a_L2_wants L_hung L_dead L_standing L_wants F_glow F_spotCount F_pointCount F_wallCount F_table F_spots F_points F_walls F_across F_bareLight L2_hung L2_dead L2_standing L2_wants) sz (kQV D (kTY cI cC cZ) (va_A (WD7 cI cC cZ a_L a_L_wants a_F a_F_table a_F_spots a_F_points a_F_walls a_F_across a_F_bareLight a_L2 a_L2_wants L_hung L_dead L_standing L_wants F_glow F_spotCount F_pointCount F_wallCount F_table F_spots F_points F_walls F_across F_bareLight L2_hung L2_dead L2_standing L2_wants) sz) (WD7 cI cC cZ a_L a_L_wants a_F a_F_table a_F_spots a_F_points a_F_walls a_F_across a_F_bareLight a_L2 a_L2_wants u_L_hung u_L_dead u_L_standing u_L_wants F_glow F_spotCount F_pointCount F_wallCount F_table F_spots F_points F_walls F_across F_bareLight L2_hung L2_dead L2_standing L2_wants)) := by
  refine kEnter (lv := [(0, .ref a_L), (1, .ref a_L2)]) (own := RX2) (by decide) rfl (Nat.le_of_ble_eq_true rfl) rfl ?_
  intro p e s m below meth c hsz C0 hP hD hS ls hl
  generalize (va_A (WD7 cI cC cZ a_L a_L_wants a_F a_F_table a_F_spots a_F_points a_F_walls a_F_across a_F_bareLight a_L2 a_L2_wants L_hung L_dead L_standing L_wants F_glow F_spotCount F_pointCount F_wallCount F_table F_spots F_points F_walls F_across F_bareLight L2_hung L2_dead L2_standing L2_wants) sz) = A at C0 hD hS ⊢
  clear hsz hS
  obtain ⟨H, hHs⟩ : ∃ H : Heap, H = s.heap := ⟨_, rfl⟩
  have hS : va_S A s.heap H [] := by rw [hHs]; exact va_S.rf
  rw [← hHs] at hP ⊢
  obtain ⟨hx, hb, hr, hml, hown, hts, hK, hN, hA, hlocks, hF⟩ := id C0
  have h := hf
  unfold f_X2_copyFrom at h
  refine lv_aload_n hx hb dX2_copyFrom_0 rfl (lv_at hl 0 rfl) ?_
  refine lv_aload_n hx hb dX2_copyFrom_1 rfl (lv_at hl 1 rfl) ?_
  refine va_get (D := D) (ci := 2) (v := .int L2_hung) (C := RX2) (T := TX2) (N := 5) hx hb hts inlX2 hown hK hP 9 rfl rfl 2 (by decide) (hts _ kw_256) (fun _ h9 => h9) rfl dX2_copyFrom_2 ?_
  refine va_put (D := D) (ci := 2) (v := .int L2_hung) (ty := .int) (C := RX2) (T := TX2) (N := 5) hx hb hts inlX2 tyX2 tyX2_ok nmX2 hown hK hP hD hS 0 rfl rfl 2 (by decide) (hts _ kw_256) (fun _ h9 => h9) rfl (by decide +kernel) rfl rfl (Nat.le_of_ble_eq_true rfl) dX2_copyFrom_5 (fun H locs hP hD hS => ?_)
  have hP : va_P D vwCl (WD7 cI cC cZ a_L a_L_wants a_F a_F_table a_F_spots a_F_points a_F_walls a_F_across a_F_bareLight a_L2 a_L2_wants L2_hung L_dead L_standing L_wants F_glow F_spotCount F_pointCount F_wallCount F_table F_spots F_points F_walls F_across F_bareLight L2_hung L2_dead L2_standing L2_wants) H := hP
  have hD : va_D A (WD7 cI cC cZ a_L a_L_wants a_F a_F_table a_F_spots a_F_points a_F_walls a_F_across a_F_bareLight a_L2 a_L2_wants L2_hung L_dead L_standing L_wants F_glow F_spotCount F_pointCount F_wallCount F_table F_spots F_points F_walls F_across F_bareLight L2_hung L2_dead L2_standing L2_wants) := hD
  refine lv_aload_n hx hb dX2_copyFrom_8 rfl (lv_at hl 0 rfl) ?_
  refine lv_aload_n hx hb dX2_copyFrom_9 rfl (lv_at hl 1 rfl) ?_
  refine va_get (D := D) (ci := 2) (v := .int L2_dead) (C := RX2) (T := TX2) (N := 5) hx hb hts inlX2 hown hK hP 9 rfl rfl 3 (by decide) (hts _ kw_257) (fun _ h9 => h9) rfl dX2_copyFrom_10 ?_
  refine va_put (D := D) (ci := 2) (v := .int L2_dead) (ty := .int) (C := RX2) (T := TX2) (N := 5) hx hb hts inlX2 tyX2 tyX2_ok nmX2 hown hK hP hD hS 0 rfl rfl 3 (by decide) (hts _ kw_257) (fun _ h9 => h9) rfl (by decide +kernel) rfl rfl (Nat.le_of_ble_eq_true rfl) dX2_copyFrom_13 (fun H locs hP hD hS => ?_)
  have hP : va_P D vwCl (WD7 cI cC cZ a_L a_L_wants a_F a_F_table a_F_spots a_F_points a_F_walls a_F_across a_F_bareLight a_L2 a_L2_wants L2_hung L2_dead L_standing L_wants F_glow F_spotCount F_pointCount F_wallCount F_table F_spots F_points F_walls F_across F_bareLight L2_hung L2_dead L2_standing L2_wants) H := hP
  have hD : va_D A (WD7 cI cC cZ a_L a_L_wants a_F a_F_table a_F_spots a_F_points a_F_walls a_F_across a_F_bareLight a_L2 a_L2_wants L2_hung L2_dead L_standing L_wants F_glow F_spotCount F_pointCount F_wallCount F_table F_spots F_points F_walls F_across F_bareLight L2_hung L2_dead L2_standing L2_wants) := hD
  refine lv_aload_n hx hb dX2_copyFrom_16 rfl (lv_at hl 0 rfl) ?_
  refine lv_aload_n hx hb dX2_copyFrom_17 rfl (lv_at hl 1 rfl) ?_
  refine va_get (D := D) (ci := 2) (v := .int L2_standing) (C := RX2) (T := TX2) (N := 5) hx hb hts inlX2 hown hK hP 9 rfl rfl 4 (by decide) (hts _ kw_258) (fun _ h9 => h9) rfl dX2_copyFrom_18 ?_
  refine va_put (D := D) (ci := 2) (v := .int L2_standing) (ty := .int) (C := RX2) (T := TX2) (N := 5) hx hb hts inlX2 tyX2 tyX2_ok nmX2 hown hK hP hD hS 0 rfl rfl 4 (by decide) (hts _ kw_258) (fun _ h9 => h9) rfl (by decide +kernel) rfl rfl (Nat.le_of_ble_eq_true rfl) dX2_copyFrom_21 (fun H locs hP hD hS => ?_)
  have hP : va_P D vwCl (WD7 cI cC cZ a_L a_L_wants a_F a_F_table a_F_spots a_F_points a_F_walls a_F_across a_F_bareLight a_L2 a_L2_wants L2_hung L2_dead L2_standing L_wants F_glow F_spotCount F_pointCount F_wallCount F_table F_spots F_points F_walls F_across F_bareLight L2_hung L2_dead L2_standing L2_wants) H := hP
  have hD : va_D A (WD7 cI cC cZ a_L a_L_wants a_F a_F_table a_F_spots a_F_points a_F_walls a_F_across a_F_bareLight a_L2 a_L2_wants L2_hung L2_dead L2_standing L_wants F_glow F_spotCount F_pointCount F_wallCount F_table F_spots F_points F_walls F_across F_bareLight L2_hung L2_dead L2_standing L2_wants) := hD
  refine lv_iconst (v := (0 : Int32)) hx hb dX2_copyFrom_24 (by decide) ?_
  refine lv_istore_n (lv' := [(2, .int (0 : Int32)), (0, .ref a_L), (1, .ref a_L2)]) hx hb dX2_copyFrom_25 rfl hl (by decide) rfl (fun ls hl => ?_)
  exact wl_X2_copyFrom_26 C0  _ _ _ h _ _ hP hD hS _ (lv_sub hl [1, 2, 0] rfl)
abbrev rm_X2_live : Room := { frames := 0, cells := 0, slots := 0, locals := 0 }
noncomputable def f_X2_live (L_hung : Int32) (L_dead : Int32)  : Option (Int32) := some (L_hung &&& (L_dead ^^^ (-1 : Int32)))
set_option maxHeartbeats 4000000 in
set_option maxRecDepth 100000 in
theorem c_X2_live (l : Launch) (D : va_G) (cI cC cZ : ClassId) (a_L a_L_wants a_F a_F_table a_F_spots a_F_points a_F_walls a_F_across a_F_bareLight : Nat) (sz : Nat) (L_hung : Int32) (L_dead : Int32) (L_standing : Int32) (L_wants : Nat → Int32) (F_glow : Int32) (F_spotCount : Int32) (F_pointCount : Int32) (F_wallCount : Int32) (F_table : Nat → Int32) (F_spots : Nat → Int32) (F_points : Nat → Int32) (F_walls : Nat → Int32) (F_across : Nat → Int32) (F_bareLight : Nat → Int32) (rr : Int32) (hf : f_X2_live L_hung L_dead = some rr) : kMet l yX2_live cX2_live 1 (some .int) rm_X2_live D (kTY cI cC cZ) [.ref a_L] (WD6 cI cC cZ a_L a_L_wants a_F a_F_table a_F_spots a_F_points a_F_walls a_F_across a_F_bareLight L_hung L_dead L_standing L_wants F_glow F_spotCount F_pointCount F_wallCount F_table F_spots F_points F_walls F_across F_bareLight) sz (kQI D (kTY cI cC cZ) (va_A (WD6 cI cC cZ a_L a_L_wants a_F a_F_table a_F_spots a_F_points a_F_walls a_F_across a_F_bareLight L_hung L_dead L_standing L_wants F_glow F_spotCount F_pointCount F_wallCount F_table F_spots F_points F_walls F_across F_bareLight) sz) rr (WD6 cI cC cZ a_L a_L_wants a_F a_F_table a_F_spots a_F_points a_F_walls a_F_across a_F_bareLight L_hung L_dead L_standing L_wants F_glow F_spotCount F_pointCount F_wallCount F_table F_spots F_points F_walls F_across F_bareLight)) := by
  refine kEnter (lv := [(0, .ref a_L)]) (own := RX2) (by decide) rfl (Nat.le_of_ble_eq_true rfl) rfl ?_
  intro p e s m below meth c hsz C0 hP hD hS ls hl
  generalize (va_A (WD6 cI cC cZ a_L a_L_wants a_F a_F_table a_F_spots a_F_points a_F_walls a_F_across a_F_bareLight L_hung L_dead L_standing L_wants F_glow F_spotCount F_pointCount F_wallCount F_table F_spots F_points F_walls F_across F_bareLight) sz) = A at C0 hD hS ⊢
  clear hsz hS
  obtain ⟨H, hHs⟩ : ∃ H : Heap, H = s.heap := ⟨_, rfl⟩
  have hS : va_S A s.heap H [] := by rw [hHs]; exact va_S.rf
  rw [← hHs] at hP ⊢
  obtain ⟨hx, hb, hr, hml, hown, hts, hK, hN, hA, hlocks, hF⟩ := id C0
  have h := hf
  unfold f_X2_live at h
  refine lv_aload_n hx hb dX2_live_0 rfl (lv_at hl 0 rfl) ?_
  refine va_get (D := D) (ci := 2) (v := .int L_hung) (C := RX2) (T := TX2) (N := 5) hx hb hts inlX2 hown hK hP 0 rfl rfl 2 (by decide) (hts _ kw_256) (fun _ h9 => h9) rfl dX2_live_1 ?_
  refine lv_aload_n hx hb dX2_live_4 rfl (lv_at hl 0 rfl) ?_
  refine va_get (D := D) (ci := 2) (v := .int L_dead) (C := RX2) (T := TX2) (N := 5) hx hb hts inlX2 hown hK hP 0 rfl rfl 3 (by decide) (hts _ kw_257) (fun _ h9 => h9) rfl dX2_live_5 ?_
  refine lv_iconst (v := (-1 : Int32)) hx hb dX2_live_8 (by decide) ?_
  refine lv_ixor hx hb dX2_live_9 ?_
  refine lv_iand hx hb dX2_live_10 ?_
  cases h
  exact kret_i C0 hP hD hS rfl dX2_live_11
abbrev rm_X2_lampAt : Room := { frames := 0, cells := 0, slots := 0, locals := 0 }
noncomputable def f_X2_lampAt (L_hung : Int32) (L_dead : Int32) (p1 : Int32) : Option (Int32) := if ((L_hung >>> (p1 &&& 31)) &&& (1 : Int32)) = 0 then (some (0 : Int32)) else (if ((L_dead >>> (p1 &&& 31)) &&& (1 : Int32)) = 0 then (some (1 : Int32)) else (some (2 : Int32)))
set_option maxHeartbeats 4000000 in
set_option maxRecDepth 100000 in
theorem c_X2_lampAt (l : Launch) (D : va_G) (cI cC cZ : ClassId) (a_L a_L_wants a_F a_F_table a_F_spots a_F_points a_F_walls a_F_across a_F_bareLight : Nat) (sz : Nat) (L_hung : Int32) (L_dead : Int32) (L_standing : Int32) (L_wants : Nat → Int32) (F_glow : Int32) (F_spotCount : Int32) (F_pointCount : Int32) (F_wallCount : Int32) (F_table : Nat → Int32) (F_spots : Nat → Int32) (F_points : Nat → Int32) (F_walls : Nat → Int32) (F_across : Nat → Int32) (F_bareLight : Nat → Int32) (p1 : Int32) (rr : Int32) (hf : f_X2_lampAt L_hung L_dead p1 = some rr) : kMet l yX2_lampAt cX2_lampAt 2 (some .int) rm_X2_lampAt D (kTY cI cC cZ) [.ref a_L, .int p1] (WD6 cI cC cZ a_L a_L_wants a_F a_F_table a_F_spots a_F_points a_F_walls a_F_across a_F_bareLight L_hung L_dead L_standing L_wants F_glow F_spotCount F_pointCount F_wallCount F_table F_spots F_points F_walls F_across F_bareLight) sz (kQI D (kTY cI cC cZ) (va_A (WD6 cI cC cZ a_L a_L_wants a_F a_F_table a_F_spots a_F_points a_F_walls a_F_across a_F_bareLight L_hung L_dead L_standing L_wants F_glow F_spotCount F_pointCount F_wallCount F_table F_spots F_points F_walls F_across F_bareLight) sz) rr (WD6 cI cC cZ a_L a_L_wants a_F a_F_table a_F_spots a_F_points a_F_walls a_F_across a_F_bareLight L_hung L_dead L_standing L_wants F_glow F_spotCount F_pointCount F_wallCount F_table F_spots F_points F_walls F_across F_bareLight)) := by
  refine kEnter (lv := [(0, .ref a_L), (1, .int p1)]) (own := RX2) (by decide) rfl (Nat.le_of_ble_eq_true rfl) rfl ?_
  intro p e s m below meth c hsz C0 hP hD hS ls hl
  generalize (va_A (WD6 cI cC cZ a_L a_L_wants a_F a_F_table a_F_spots a_F_points a_F_walls a_F_across a_F_bareLight L_hung L_dead L_standing L_wants F_glow F_spotCount F_pointCount F_wallCount F_table F_spots F_points F_walls F_across F_bareLight) sz) = A at C0 hD hS ⊢
  clear hsz hS
  obtain ⟨H, hHs⟩ : ∃ H : Heap, H = s.heap := ⟨_, rfl⟩
  have hS : va_S A s.heap H [] := by rw [hHs]; exact va_S.rf
  rw [← hHs] at hP ⊢
  obtain ⟨hx, hb, hr, hml, hown, hts, hK, hN, hA, hlocks, hF⟩ := id C0
  have h := hf
  unfold f_X2_lampAt at h
  refine lv_aload_n hx hb dX2_lampAt_0 rfl (lv_at hl 0 rfl) ?_
  refine va_get (D := D) (ci := 2) (v := .int L_hung) (C := RX2) (T := TX2) (N := 5) hx hb hts inlX2 hown hK hP 0 rfl rfl 2 (by decide) (hts _ kw_256) (fun _ h9 => h9) rfl dX2_lampAt_1 ?_
  refine lv_iload_n hx hb dX2_lampAt_4 rfl (lv_at hl 1 rfl) ?_
  refine lv_ishr hx hb dX2_lampAt_5 ?_
  refine lv_iconst (v := (1 : Int32)) hx hb dX2_lampAt_6 (by decide) ?_
  refine lv_iand hx hb dX2_lampAt_7 ?_
  refine lv_if_ne (tgt := 13) hx hb dX2_lampAt_8 (by decide) (fun c1 => ?_) (fun c1 => ?_)
  · have h := oc_f c1 h
    refine lv_aload_n hx hb dX2_lampAt_13 rfl (lv_at hl 0 rfl) ?_
    refine va_get (D := D) (ci := 2) (v := .int L_dead) (C := RX2) (T := TX2) (N := 5) hx hb hts inlX2 hown hK hP 0 rfl rfl 3 (by decide) (hts _ kw_257) (fun _ h9 => h9) rfl dX2_lampAt_14 ?_
    refine lv_iload_n hx hb dX2_lampAt_17 rfl (lv_at hl 1 rfl) ?_
    refine lv_ishr hx hb dX2_lampAt_18 ?_
    refine lv_iconst (v := (1 : Int32)) hx hb dX2_lampAt_19 (by decide) ?_
    refine lv_iand hx hb dX2_lampAt_20 ?_
    refine lv_if_ne (tgt := 28) hx hb dX2_lampAt_21 (by decide) (fun c2 => ?_) (fun c2 => ?_)
    · have h := oc_f c2 h
      refine lv_iconst (v := (2 : Int32)) hx hb dX2_lampAt_28 (by decide) ?_
      cases h
      exact kret_i C0 hP hD hS rfl dX2_lampAt_29
    · have h := oc_t c2 h
      refine lv_iconst (v := (1 : Int32)) hx hb dX2_lampAt_24 (by decide) ?_
      refine lv_goto (tgt := 29) hx hb dX2_lampAt_25 (by decide) ?_
      cases h
      exact kret_i C0 hP hD hS rfl dX2_lampAt_29
  · have h := oc_t c1 h
    refine lv_iconst (v := (0 : Int32)) hx hb dX2_lampAt_11 (by decide) ?_
    cases h
    exact kret_i C0 hP hD hS rfl dX2_lampAt_12
abbrev rm_X2_putLamp : Room := { frames := 0, cells := 0, slots := 0, locals := 0 }
noncomputable def bk_X2_putLamp_26  (L_hung : Int32) (L_dead : Int32) (p2 : Int32) (p3 : Int32) (s0 : Int32) : Option (Int32 × Int32) := if p2 = (2 : Int32) then (nm_ (L_dead ||| p3) (fun t3 => some (s0, t3))) else (nm_ (L_dead &&& (p3 ^^^ (-1 : Int32))) (fun t2 => some (s0, t2)))
set_option maxHeartbeats 4000000 in
set_option maxRecDepth 100000 in
theorem wk_X2_putLamp_26 {p : Program} {l : Launch} {e : Env} {s : State} {m : MethodId} {args : Array Value} {below : List Frame} {meth : Method} {c : Code} {D : va_G} {cI cC cZ : ClassId} {A : Nat → Prop} {a_L a_L_wants a_F a_F_table a_F_spots a_F_points a_F_walls a_F_across a_F_bareLight : Nat} {L_hung : Int32} {L_dead : Int32} {L_standing : Int32} {L_wants : Nat → Int32} {F_glow : Int32} {F_spotCount : Int32} {F_pointCount : Int32} {F_wallCount : Int32} {F_table : Nat → Int32} {F_spots : Nat → Int32} {F_points : Nat → Int32} {F_walls : Nat → Int32} {F_across : Nat → Int32} {F_bareLight : Nat → Int32} {p2 : Int32} {p3 : Int32} {s0 : Int32}  {u_L_hung : Int32} {u_L_dead : Int32} (C0 : kC p s m args meth c D (kTY cI cC cZ) cX2_putLamp none 4 RX2 A)  (h : bk_X2_putLamp_26  L_hung L_dead p2 p3 s0 = some (u_L_hung, u_L_dead)) {H : Heap} {locs : List Loc} (hP : va_P D vwCl (WD6 cI cC cZ a_L a_L_wants a_F a_F_table a_F_spots a_F_points a_F_walls a_F_across a_F_bareLight L_hung L_dead L_standing L_wants F_glow F_spotCount F_pointCount F_wallCount F_table F_spots F_points F_walls F_across F_bareLight) H) (hD : va_D A (WD6 cI cC cZ a_L a_L_wants a_F a_F_table a_F_spots a_F_points a_F_walls a_F_across a_F_bareLight L_hung L_dead L_standing L_wants F_glow F_spotCount F_pointCount F_wallCount F_table F_spots F_points F_walls F_across F_bareLight)) (hS : va_S A s.heap H locs) {ls : Array Slot} (hl : lv_has ls 4 [(0, .ref a_L), (2, .int p2), (3, .int p3)]) : W p l e rm_X2_putLamp s m args below meth c H locs 0 0 (MQ below (kQV D (kTY cI cC cZ) A (WD6 cI cC cZ a_L a_L_wants a_F a_F_table a_F_spots a_F_points a_F_walls a_F_across a_F_bareLight u_L_hung u_L_dead L_standing L_wants F_glow F_spotCount F_pointCount F_wallCount F_table F_spots F_points F_walls F_across F_bareLight)) args s 0 0 A) (F0 m 26 ls [.int s0, .ref a_L]) := by
  obtain ⟨hx, hb, hr, hml, hown, hts, hK, hN, hA, hlocks, hF⟩ := id C0
  unfold bk_X2_putLamp_26 at h
  refine va_put (D := D) (ci := 2) (v := .int s0) (ty := .int) (C := RX2) (T := TX2) (N := 5) hx hb hts inlX2 tyX2 tyX2_ok nmX2 hown hK hP hD hS 0 rfl rfl 2 (by decide) (hts _ kw_256) (fun _ h9 => h9) rfl (by decide +kernel) rfl rfl (Nat.le_of_ble_eq_true rfl) dX2_putLamp_26 (fun H locs hP hD hS => ?_)
  have hP : va_P D vwCl (WD6 cI cC cZ a_L a_L_wants a_F a_F_table a_F_spots a_F_points a_F_walls a_F_across a_F_bareLight s0 L_dead L_standing L_wants F_glow F_spotCount F_pointCount F_wallCount F_table F_spots F_points F_walls F_across F_bareLight) H := hP
  have hD : va_D A (WD6 cI cC cZ a_L a_L_wants a_F a_F_table a_F_spots a_F_points a_F_walls a_F_across a_F_bareLight s0 L_dead L_standing L_wants F_glow F_spotCount F_pointCount F_wallCount F_table F_spots F_points F_walls F_across F_bareLight) := hD
  refine lv_aload_n hx hb dX2_putLamp_29 rfl (lv_at hl 0 rfl) ?_
  refine lv_iload_n hx hb dX2_putLamp_30 rfl (lv_at hl 1 rfl) ?_
  refine lv_iconst (v := (2 : Int32)) hx hb dX2_putLamp_31 (by decide) ?_
  refine lv_icmp_ne (tgt := 44) hx hb dX2_putLamp_32 (by decide) (fun c1 => ?_) (fun c1 => ?_)
  · have h := oc_f c1 h
    refine lv_aload_n hx hb dX2_putLamp_44 rfl (lv_at hl 0 rfl) ?_
    refine va_get (D := D) (ci := 2) (v := .int L_dead) (C := RX2) (T := TX2) (N := 5) hx hb hts inlX2 hown hK hP 0 rfl rfl 3 (by decide) (hts _ kw_257) (fun _ h9 => h9) rfl dX2_putLamp_45 ?_
    refine lv_iload_n hx hb dX2_putLamp_48 rfl (lv_at hl 2 rfl) ?_
    refine lv_iconst (v := (-1 : Int32)) hx hb dX2_putLamp_49 (by decide) ?_
    refine lv_ixor hx hb dX2_putLamp_50 ?_
    refine lv_iand hx hb dX2_putLamp_51 ?_
    refine lv_topi (fun t2 e_t2 => ?_)
    have h := oc_nm e_t2 h
    refine va_put (D := D) (ci := 2) (v := .int t2) (ty := .int) (C := RX2) (T := TX2) (N := 5) hx hb hts inlX2 tyX2 tyX2_ok nmX2 hown hK hP hD hS 0 rfl rfl 3 (by decide) (hts _ kw_257) (fun _ h9 => h9) rfl (by decide +kernel) rfl rfl (Nat.le_of_ble_eq_true rfl) dX2_putLamp_52 (fun H locs hP hD hS => ?_)
    have hP : va_P D vwCl (WD6 cI cC cZ a_L a_L_wants a_F a_F_table a_F_spots a_F_points a_F_walls a_F_across a_F_bareLight s0 t2 L_standing L_wants F_glow F_spotCount F_pointCount F_wallCount F_table F_spots F_points F_walls F_across F_bareLight) H := hP
    have hD : va_D A (WD6 cI cC cZ a_L a_L_wants a_F a_F_table a_F_spots a_F_points a_F_walls a_F_across a_F_bareLight s0 t2 L_standing L_wants F_glow F_spotCount F_pointCount F_wallCount F_table F_spots F_points F_walls F_across F_bareLight) := hD
    cases h
    exact kret_v C0 hP hD hS dX2_putLamp_55
  · have h := oc_t c1 h
    refine lv_aload_n hx hb dX2_putLamp_35 rfl (lv_at hl 0 rfl) ?_
    refine va_get (D := D) (ci := 2) (v := .int L_dead) (C := RX2) (T := TX2) (N := 5) hx hb hts inlX2 hown hK hP 0 rfl rfl 3 (by decide) (hts _ kw_257) (fun _ h9 => h9) rfl dX2_putLamp_36 ?_
    refine lv_iload_n hx hb dX2_putLamp_39 rfl (lv_at hl 2 rfl) ?_
    refine lv_ior hx hb dX2_putLamp_40 ?_
    refine lv_goto (tgt := 52) hx hb dX2_putLamp_41 (by decide) ?_
    refine lv_topi (fun t3 e_t3 => ?_)
    have h := oc_nm e_t3 h
    refine va_put (D := D) (ci := 2) (v := .int t3) (ty := .int) (C := RX2) (T := TX2) (N := 5) hx hb hts inlX2 tyX2 tyX2_ok nmX2 hown hK hP hD hS 0 rfl rfl 3 (by decide) (hts _ kw_257) (fun _ h9 => h9) rfl (by decide +kernel) rfl rfl (Nat.le_of_ble_eq_true rfl) dX2_putLamp_52 (fun H locs hP hD hS => ?_)
    have hP : va_P D vwCl (WD6 cI cC cZ a_L a_L_wants a_F a_F_table a_F_spots a_F_points a_F_walls a_F_across a_F_bareLight s0 t3 L_standing L_wants F_glow F_spotCount F_pointCount F_wallCount F_table F_spots F_points F_walls F_across F_bareLight) H := hP
    have hD : va_D A (WD6 cI cC cZ a_L a_L_wants a_F a_F_table a_F_spots a_F_points a_F_walls a_F_across a_F_bareLight s0 t3 L_standing L_wants F_glow F_spotCount F_pointCount F_wallCount F_table F_spots F_points F_walls F_across F_bareLight) := hD
    cases h
    exact kret_v C0 hP hD hS dX2_putLamp_55
noncomputable def f_X2_putLamp (L_hung : Int32) (L_dead : Int32) (p1 : Int32) (p2 : Int32) : Option (Int32 × Int32) := nm_ ((1 : Int32) <<< (p1 &&& 31)) (fun t1 => if p2 = 0 then (bk_X2_putLamp_26  L_hung L_dead p2 t1 (L_hung &&& (t1 ^^^ (-1 : Int32)))) else (bk_X2_putLamp_26  L_hung L_dead p2 t1 (L_hung ||| t1)))
set_option maxHeartbeats 4000000 in
set_option maxRecDepth 100000 in
theorem c_X2_putLamp (l : Launch) (D : va_G) (cI cC cZ : ClassId) (a_L a_L_wants a_F a_F_table a_F_spots a_F_points a_F_walls a_F_across a_F_bareLight : Nat) (sz : Nat) (L_hung : Int32) (L_dead : Int32) (L_standing : Int32) (L_wants : Nat → Int32) (F_glow : Int32) (F_spotCount : Int32) (F_pointCount : Int32) (F_wallCount : Int32) (F_table : Nat → Int32) (F_spots : Nat → Int32) (F_points : Nat → Int32) (F_walls : Nat → Int32) (F_across : Nat → Int32) (F_bareLight : Nat → Int32) (p1 : Int32) (p2 : Int32) (u_L_hung : Int32) (u_L_dead : Int32) (hf : f_X2_putLamp L_hung L_dead p1 p2 = some (u_L_hung, u_L_dead)) : kMet l yX2_putLamp cX2_putLamp 4 none rm_X2_putLamp D (kTY cI cC cZ) [.ref a_L, .int p1, .int p2] (WD6 cI cC cZ a_L a_L_wants a_F a_F_table a_F_spots a_F_points a_F_walls a_F_across a_F_bareLight L_hung L_dead L_standing L_wants F_glow F_spotCount F_pointCount F_wallCount F_table F_spots F_points F_walls F_across F_bareLight) sz (kQV D (kTY cI cC cZ) (va_A (WD6 cI cC cZ a_L a_L_wants a_F a_F_table a_F_spots a_F_points a_F_walls a_F_across a_F_bareLight L_hung L_dead L_standing L_wants F_glow F_spotCount F_pointCount F_wallCount F_table F_spots F_points F_walls F_across F_bareLight) sz) (WD6 cI cC cZ a_L a_L_wants a_F a_F_table a_F_spots a_F_points a_F_walls a_F_across a_F_bareLight u_L_hung u_L_dead L_standing L_wants F_glow F_spotCount F_pointCount F_wallCount F_table F_spots F_points F_walls F_across F_bareLight)) := by
  refine kEnter (lv := [(0, .ref a_L), (1, .int p1), (2, .int p2)]) (own := RX2) (by decide) rfl (Nat.le_of_ble_eq_true rfl) rfl ?_
  intro p e s m below meth c hsz C0 hP hD hS ls hl
  generalize (va_A (WD6 cI cC cZ a_L a_L_wants a_F a_F_table a_F_spots a_F_points a_F_walls a_F_across a_F_bareLight L_hung L_dead L_standing L_wants F_glow F_spotCount F_pointCount F_wallCount F_table F_spots F_points F_walls F_across F_bareLight) sz) = A at C0 hD hS ⊢
  clear hsz hS
  obtain ⟨H, hHs⟩ : ∃ H : Heap, H = s.heap := ⟨_, rfl⟩
  have hS : va_S A s.heap H [] := by rw [hHs]; exact va_S.rf
  rw [← hHs] at hP ⊢
  obtain ⟨hx, hb, hr, hml, hown, hts, hK, hN, hA, hlocks, hF⟩ := id C0
  have h := hf
  unfold f_X2_putLamp at h
  refine lv_iconst (v := (1 : Int32)) hx hb dX2_putLamp_0 (by decide) ?_
  refine lv_iload_n hx hb dX2_putLamp_1 rfl (lv_at hl 1 rfl) ?_
  refine lv_ishl hx hb dX2_putLamp_2 ?_
  refine lv_topi (fun t1 e_t1 => ?_)
  have h := oc_nm e_t1 h
  refine lv_istore_n (lv' := [(3, .int t1), (0, .ref a_L), (1, .int p1), (2, .int p2)]) hx hb dX2_putLamp_3 rfl hl (by decide) rfl (fun ls hl => ?_)
  refine lv_aload_n hx hb dX2_putLamp_4 rfl (lv_at hl 1 rfl) ?_
  refine lv_iload_n hx hb dX2_putLamp_5 rfl (lv_at hl 3 rfl) ?_
  refine lv_if_ne (tgt := 20) hx hb dX2_putLamp_6 (by decide) (fun c2 => ?_) (fun c2 => ?_)
  · have h := oc_f c2 h
    refine lv_aload_n hx hb dX2_putLamp_20 rfl (lv_at hl 1 rfl) ?_
    refine va_get (D := D) (ci := 2) (v := .int L_hung) (C := RX2) (T := TX2) (N := 5) hx hb hts inlX2 hown hK hP 0 rfl rfl 2 (by decide) (hts _ kw_256) (fun _ h9 => h9) rfl dX2_putLamp_21 ?_
    refine lv_iload_n hx hb dX2_putLamp_24 rfl (lv_at hl 0 rfl) ?_
    refine lv_ior hx hb dX2_putLamp_25 ?_
    exact wk_X2_putLamp_26 C0  h hP hD hS (lv_sub hl [1, 3, 0] rfl)
  · have h := oc_t c2 h
    refine lv_aload_n hx hb dX2_putLamp_9 rfl (lv_at hl 1 rfl) ?_
    refine va_get (D := D) (ci := 2) (v := .int L_hung) (C := RX2) (T := TX2) (N := 5) hx hb hts inlX2 hown hK hP 0 rfl rfl 2 (by decide) (hts _ kw_256) (fun _ h9 => h9) rfl dX2_putLamp_10 ?_
    refine lv_iload_n hx hb dX2_putLamp_13 rfl (lv_at hl 0 rfl) ?_
    refine lv_iconst (v := (-1 : Int32)) hx hb dX2_putLamp_14 (by decide) ?_
    refine lv_ixor hx hb dX2_putLamp_15 ?_
    refine lv_iand hx hb dX2_putLamp_16 ?_
    refine lv_goto (tgt := 26) hx hb dX2_putLamp_17 (by decide) ?_
    exact wk_X2_putLamp_26 C0  h hP hD hS (lv_sub hl [1, 3, 0] rfl)
abbrev rm_X2_turnLamp : Room := { frames := 1, cells := 0, slots := 0, locals := 23 }
noncomputable def bk_X2_turnLamp_15  (L_hung : Int32) (L_dead : Int32) (s0 : Int32) (s1 : Int32) : Option (Int32 × Int32) := (f_X2_putLamp L_hung L_dead s1 s0).bind (fun z => un2 z (fun u2 u3 => some (u2, u3)))
set_option maxHeartbeats 4000000 in
set_option maxRecDepth 100000 in
theorem wk_X2_turnLamp_15 {p : Program} {l : Launch} {e : Env} {s : State} {m : MethodId} {args : Array Value} {below : List Frame} {meth : Method} {c : Code} {D : va_G} {cI cC cZ : ClassId} {A : Nat → Prop} {a_L a_L_wants a_F a_F_table a_F_spots a_F_points a_F_walls a_F_across a_F_bareLight : Nat} {L_hung : Int32} {L_dead : Int32} {L_standing : Int32} {L_wants : Nat → Int32} {F_glow : Int32} {F_spotCount : Int32} {F_pointCount : Int32} {F_wallCount : Int32} {F_table : Nat → Int32} {F_spots : Nat → Int32} {F_points : Nat → Int32} {F_walls : Nat → Int32} {F_across : Nat → Int32} {F_bareLight : Nat → Int32} {s0 : Int32} {s1 : Int32}  {u_L_hung : Int32} {u_L_dead : Int32} (C0 : kC p s m args meth c D (kTY cI cC cZ) cX2_turnLamp none 2 RX2 A)  (h : bk_X2_turnLamp_15  L_hung L_dead s0 s1 = some (u_L_hung, u_L_dead)) {H : Heap} {locs : List Loc} (hP : va_P D vwCl (WD6 cI cC cZ a_L a_L_wants a_F a_F_table a_F_spots a_F_points a_F_walls a_F_across a_F_bareLight L_hung L_dead L_standing L_wants F_glow F_spotCount F_pointCount F_wallCount F_table F_spots F_points F_walls F_across F_bareLight) H) (hD : va_D A (WD6 cI cC cZ a_L a_L_wants a_F a_F_table a_F_spots a_F_points a_F_walls a_F_across a_F_bareLight L_hung L_dead L_standing L_wants F_glow F_spotCount F_pointCount F_wallCount F_table F_spots F_points F_walls F_across F_bareLight)) (hS : va_S A s.heap H locs) {ls : Array Slot} (hl : lv_has ls 2 []) : W p l e rm_X2_turnLamp s m args below meth c H locs 0 0 (MQ below (kQV D (kTY cI cC cZ) A (WD6 cI cC cZ a_L a_L_wants a_F a_F_table a_F_spots a_F_points a_F_walls a_F_across a_F_bareLight u_L_hung u_L_dead L_standing L_wants F_glow F_spotCount F_pointCount F_wallCount F_table F_spots F_points F_walls F_across F_bareLight)) args s 0 0 A) (F0 m 15 ls [.int s0, .int s1, .ref a_L]) := by
  obtain ⟨hx, hb, hr, hml, hown, hts, hK, hN, hA, hlocks, hF⟩ := id C0
  unfold bk_X2_turnLamp_15 at h
  obtain ⟨u2, u3, hc1, h⟩ := oc_b2 h
  refine kgo_v (wc := (WD6 cI cC cZ a_L a_L_wants a_F a_F_table a_F_spots a_F_points a_F_walls a_F_across a_F_bareLight L_hung L_dead L_standing L_wants F_glow F_spotCount F_pointCount F_wallCount F_table F_spots F_points F_walls F_across F_bareLight)) (wc' := (WD6 cI cC cZ a_L a_L_wants a_F a_F_table a_F_spots a_F_points a_F_walls a_F_across a_F_bareLight u2 u3 L_standing L_wants F_glow F_spotCount F_pointCount F_wallCount F_table F_spots F_points F_walls F_across F_bareLight)) (ws' := (WD6 cI cC cZ a_L a_L_wants a_F a_F_table a_F_spots a_F_points a_F_walls a_F_across a_F_bareLight u2 u3 L_standing L_wants F_glow F_spotCount F_pointCount F_wallCount F_table F_spots F_points F_walls F_across F_bareLight)) C0 hP hD hS [0, 1, 2, 3, 4, 5, 6, 7, 8] [] [0, 1, 2, 3, 4, 5, 6, 7, 8] [] rfl rfl (by decide) (by decide) rfl (by decide) (kV (n := 2) (As := [.int s1, .int s0]) (rest := []) (wc := (WD6 cI cC cZ a_L a_L_wants a_F a_F_table a_F_spots a_F_points a_F_walls a_F_across a_F_bareLight L_hung L_dead L_standing L_wants F_glow F_spotCount F_pointCount F_wallCount F_table F_spots F_points F_walls F_across F_bareLight)) (C := RX2) C0 hP hD hS [0, 1, 2, 3, 4, 5, 6, 7, 8] rfl (by decide) (c_X2_putLamp l D cI cC cZ a_L a_L_wants a_F a_F_table a_F_spots a_F_points a_F_walls a_F_across a_F_bareLight H.size L_hung L_dead L_standing L_wants F_glow F_spotCount F_pointCount F_wallCount F_table F_spots F_points F_walls F_across F_bareLight s1 s0 u2 u3 hc1) kw_444 kw_441 kw_442 kw_443 kw_23 (by decide +kernel) (by decide) rfl rfl rfl hl.1 rfl (Nat.le_of_ble_eq_true rfl) ⟨Nat.zero_le _, Nat.zero_le _⟩ dX2_turnLamp_15) (fun H locs hP hD hS => ?_)
  cases h
  exact kret_v C0 hP hD hS dX2_turnLamp_18
noncomputable def f_X2_turnLamp (L_hung : Int32) (L_dead : Int32) (p1 : Int32) : Option (Int32 × Int32) := (f_X2_lampAt L_hung L_dead p1).bind (fun r2 => if r2 = 0 then (bk_X2_turnLamp_15  L_hung L_dead (1 : Int32) p1) else (bk_X2_turnLamp_15  L_hung L_dead (0 : Int32) p1))
set_option maxHeartbeats 4000000 in
set_option maxRecDepth 100000 in
theorem c_X2_turnLamp (l : Launch) (D : va_G) (cI cC cZ : ClassId) (a_L a_L_wants a_F a_F_table a_F_spots a_F_points a_F_walls a_F_across a_F_bareLight : Nat) (sz : Nat) (L_hung : Int32) (L_dead : Int32) (L_standing : Int32) (L_wants : Nat → Int32) (F_glow : Int32) (F_spotCount : Int32) (F_pointCount : Int32) (F_wallCount : Int32) (F_table : Nat → Int32) (F_spots : Nat → Int32) (F_points : Nat → Int32) (F_walls : Nat → Int32) (F_across : Nat → Int32) (F_bareLight : Nat → Int32) (p1 : Int32) (u_L_hung : Int32) (u_L_dead : Int32) (hf : f_X2_turnLamp L_hung L_dead p1 = some (u_L_hung, u_L_dead)) : kMet l yX2_turnLamp cX2_turnLamp 2 none rm_X2_turnLamp D (kTY cI cC cZ) [.ref a_L, .int p1] (WD6 cI cC cZ a_L a_L_wants a_F a_F_table a_F_spots a_F_points a_F_walls a_F_across a_F_bareLight L_hung L_dead L_standing L_wants F_glow F_spotCount F_pointCount F_wallCount F_table F_spots F_points F_walls F_across F_bareLight) sz (kQV D (kTY cI cC cZ) (va_A (WD6 cI cC cZ a_L a_L_wants a_F a_F_table a_F_spots a_F_points a_F_walls a_F_across a_F_bareLight L_hung L_dead L_standing L_wants F_glow F_spotCount F_pointCount F_wallCount F_table F_spots F_points F_walls F_across F_bareLight) sz) (WD6 cI cC cZ a_L a_L_wants a_F a_F_table a_F_spots a_F_points a_F_walls a_F_across a_F_bareLight u_L_hung u_L_dead L_standing L_wants F_glow F_spotCount F_pointCount F_wallCount F_table F_spots F_points F_walls F_across F_bareLight)) := by
  refine kEnter (lv := [(0, .ref a_L), (1, .int p1)]) (own := RX2) (by decide) rfl (Nat.le_of_ble_eq_true rfl) rfl ?_
  intro p e s m below meth c hsz C0 hP hD hS ls hl
  generalize (va_A (WD6 cI cC cZ a_L a_L_wants a_F a_F_table a_F_spots a_F_points a_F_walls a_F_across a_F_bareLight L_hung L_dead L_standing L_wants F_glow F_spotCount F_pointCount F_wallCount F_table F_spots F_points F_walls F_across F_bareLight) sz) = A at C0 hD hS ⊢
  clear hsz hS
  obtain ⟨H, hHs⟩ : ∃ H : Heap, H = s.heap := ⟨_, rfl⟩
  have hS : va_S A s.heap H [] := by rw [hHs]; exact va_S.rf
  rw [← hHs] at hP ⊢
  obtain ⟨hx, hb, hr, hml, hown, hts, hK, hN, hA, hlocks, hF⟩ := id C0
  have h := hf
  unfold f_X2_turnLamp at h
  refine lv_aload_n hx hb dX2_turnLamp_0 rfl (lv_at hl 0 rfl) ?_
  refine lv_iload_n hx hb dX2_turnLamp_1 rfl (lv_at hl 1 rfl) ?_
  refine lv_aload_n hx hb dX2_turnLamp_2 rfl (lv_at hl 0 rfl) ?_
  refine lv_iload_n hx hb dX2_turnLamp_3 rfl (lv_at hl 1 rfl) ?_
  obtain ⟨r2, hc1, h⟩ := oc_bind h
  refine kro_i (wc := (WD6 cI cC cZ a_L a_L_wants a_F a_F_table a_F_spots a_F_points a_F_walls a_F_across a_F_bareLight L_hung L_dead L_standing L_wants F_glow F_spotCount F_pointCount F_wallCount F_table F_spots F_points F_walls F_across F_bareLight)) C0 hP hD hS [0, 1, 2, 3, 4, 5, 6, 7, 8] rfl (kV (n := 1) (As := [.int p1]) (rest := [.int p1, .ref a_L]) (wc := (WD6 cI cC cZ a_L a_L_wants a_F a_F_table a_F_spots a_F_points a_F_walls a_F_across a_F_bareLight L_hung L_dead L_standing L_wants F_glow F_spotCount F_pointCount F_wallCount F_table F_spots F_points F_walls F_across F_bareLight)) (C := RX2) C0 hP hD hS [0, 1, 2, 3, 4, 5, 6, 7, 8] rfl (by decide) (c_X2_lampAt l D cI cC cZ a_L a_L_wants a_F a_F_table a_F_spots a_F_points a_F_walls a_F_across a_F_bareLight H.size L_hung L_dead L_standing L_wants F_glow F_spotCount F_pointCount F_wallCount F_table F_spots F_points F_walls F_across F_bareLight p1 r2 hc1) kw_290 kw_440 kw_288 kw_289 kw_23 (by decide +kernel) (by decide) rfl rfl rfl hl.1 rfl (Nat.le_of_ble_eq_true rfl) ⟨Nat.zero_le _, Nat.zero_le _⟩ dX2_turnLamp_4) (fun H locs hP hS => ?_)
  refine lv_if_ne (tgt := 14) hx hb dX2_turnLamp_7 (by decide) (fun c3 => ?_) (fun c3 => ?_)
  · have h := oc_f c3 h
    refine lv_iconst (v := (0 : Int32)) hx hb dX2_turnLamp_14 (by decide) ?_
    exact wk_X2_turnLamp_15 C0  h hP hD hS (lv_sub hl [] rfl)
  · have h := oc_t c3 h
    refine lv_iconst (v := (1 : Int32)) hx hb dX2_turnLamp_10 (by decide) ?_
    refine lv_goto (tgt := 15) hx hb dX2_turnLamp_11 (by decide) ?_
    exact wk_X2_turnLamp_15 C0  h hP hD hS (lv_sub hl [] rfl)
abbrev rm_X2_turnDead : Room := { frames := 1, cells := 0, slots := 0, locals := 23 }
noncomputable def bk_X2_turnDead_16  (L_hung : Int32) (L_dead : Int32) (s0 : Int32) (s1 : Int32) : Option (Int32 × Int32) := (f_X2_putLamp L_hung L_dead s1 s0).bind (fun z => un2 z (fun u2 u3 => some (u2, u3)))
set_option maxHeartbeats 4000000 in
set_option maxRecDepth 100000 in
theorem wk_X2_turnDead_16 {p : Program} {l : Launch} {e : Env} {s : State} {m : MethodId} {args : Array Value} {below : List Frame} {meth : Method} {c : Code} {D : va_G} {cI cC cZ : ClassId} {A : Nat → Prop} {a_L a_L_wants a_F a_F_table a_F_spots a_F_points a_F_walls a_F_across a_F_bareLight : Nat} {L_hung : Int32} {L_dead : Int32} {L_standing : Int32} {L_wants : Nat → Int32} {F_glow : Int32} {F_spotCount : Int32} {F_pointCount : Int32} {F_wallCount : Int32} {F_table : Nat → Int32} {F_spots : Nat → Int32} {F_points : Nat → Int32} {F_walls : Nat → Int32} {F_across : Nat → Int32} {F_bareLight : Nat → Int32} {s0 : Int32} {s1 : Int32}  {u_L_hung : Int32} {u_L_dead : Int32} (C0 : kC p s m args meth c D (kTY cI cC cZ) cX2_turnDead none 2 RX2 A)  (h : bk_X2_turnDead_16  L_hung L_dead s0 s1 = some (u_L_hung, u_L_dead)) {H : Heap} {locs : List Loc} (hP : va_P D vwCl (WD6 cI cC cZ a_L a_L_wants a_F a_F_table a_F_spots a_F_points a_F_walls a_F_across a_F_bareLight L_hung L_dead L_standing L_wants F_glow F_spotCount F_pointCount F_wallCount F_table F_spots F_points F_walls F_across F_bareLight) H) (hD : va_D A (WD6 cI cC cZ a_L a_L_wants a_F a_F_table a_F_spots a_F_points a_F_walls a_F_across a_F_bareLight L_hung L_dead L_standing L_wants F_glow F_spotCount F_pointCount F_wallCount F_table F_spots F_points F_walls F_across F_bareLight)) (hS : va_S A s.heap H locs) {ls : Array Slot} (hl : lv_has ls 2 []) : W p l e rm_X2_turnDead s m args below meth c H locs 0 0 (MQ below (kQV D (kTY cI cC cZ) A (WD6 cI cC cZ a_L a_L_wants a_F a_F_table a_F_spots a_F_points a_F_walls a_F_across a_F_bareLight u_L_hung u_L_dead L_standing L_wants F_glow F_spotCount F_pointCount F_wallCount F_table F_spots F_points F_walls F_across F_bareLight)) args s 0 0 A) (F0 m 16 ls [.int s0, .int s1, .ref a_L]) := by
  obtain ⟨hx, hb, hr, hml, hown, hts, hK, hN, hA, hlocks, hF⟩ := id C0
  unfold bk_X2_turnDead_16 at h
  obtain ⟨u2, u3, hc1, h⟩ := oc_b2 h
  refine kgo_v (wc := (WD6 cI cC cZ a_L a_L_wants a_F a_F_table a_F_spots a_F_points a_F_walls a_F_across a_F_bareLight L_hung L_dead L_standing L_wants F_glow F_spotCount F_pointCount F_wallCount F_table F_spots F_points F_walls F_across F_bareLight)) (wc' := (WD6 cI cC cZ a_L a_L_wants a_F a_F_table a_F_spots a_F_points a_F_walls a_F_across a_F_bareLight u2 u3 L_standing L_wants F_glow F_spotCount F_pointCount F_wallCount F_table F_spots F_points F_walls F_across F_bareLight)) (ws' := (WD6 cI cC cZ a_L a_L_wants a_F a_F_table a_F_spots a_F_points a_F_walls a_F_across a_F_bareLight u2 u3 L_standing L_wants F_glow F_spotCount F_pointCount F_wallCount F_table F_spots F_points F_walls F_across F_bareLight)) C0 hP hD hS [0, 1, 2, 3, 4, 5, 6, 7, 8] [] [0, 1, 2, 3, 4, 5, 6, 7, 8] [] rfl rfl (by decide) (by decide) rfl (by decide) (kV (n := 2) (As := [.int s1, .int s0]) (rest := []) (wc := (WD6 cI cC cZ a_L a_L_wants a_F a_F_table a_F_spots a_F_points a_F_walls a_F_across a_F_bareLight L_hung L_dead L_standing L_wants F_glow F_spotCount F_pointCount F_wallCount F_table F_spots F_points F_walls F_across F_bareLight)) (C := RX2) C0 hP hD hS [0, 1, 2, 3, 4, 5, 6, 7, 8] rfl (by decide) (c_X2_putLamp l D cI cC cZ a_L a_L_wants a_F a_F_table a_F_spots a_F_points a_F_walls a_F_across a_F_bareLight H.size L_hung L_dead L_standing L_wants F_glow F_spotCount F_pointCount F_wallCount F_table F_spots F_points F_walls F_across F_bareLight s1 s0 u2 u3 hc1) kw_444 kw_441 kw_442 kw_443 kw_23 (by decide +kernel) (by decide) rfl rfl rfl hl.1 rfl (Nat.le_of_ble_eq_true rfl) ⟨Nat.zero_le _, Nat.zero_le _⟩ dX2_turnDead_16) (fun H locs hP hD hS => ?_)
  cases h
  exact kret_v C0 hP hD hS dX2_turnDead_19
noncomputable def f_X2_turnDead (L_hung : Int32) (L_dead : Int32) (p1 : Int32) : Option (Int32 × Int32) := (f_X2_lampAt L_hung L_dead p1).bind (fun r2 => if r2 = (2 : Int32) then (bk_X2_turnDead_16  L_hung L_dead (1 : Int32) p1) else (bk_X2_turnDead_16  L_hung L_dead (2 : Int32) p1))
set_option maxHeartbeats 4000000 in
set_option maxRecDepth 100000 in
theorem c_X2_turnDead (l : Launch) (D : va_G) (cI cC cZ : ClassId) (a_L a_L_wants a_F a_F_table a_F_spots a_F_points a_F_walls a_F_across a_F_bareLight : Nat) (sz : Nat) (L_hung : Int32) (L_dead : Int32) (L_standing : Int32) (L_wants : Nat → Int32) (F_glow : Int32) (F_spotCount : Int32) (F_pointCount : Int32) (F_wallCount : Int32) (F_table : Nat → Int32) (F_spots : Nat → Int32) (F_points : Nat → Int32) (F_walls : Nat → Int32) (F_across : Nat → Int32) (F_bareLight : Nat → Int32) (p1 : Int32) (u_L_hung : Int32) (u_L_dead : Int32) (hf : f_X2_turnDead L_hung L_dead p1 = some (u_L_hung, u_L_dead)) : kMet l yX2_turnDead cX2_turnDead 2 none rm_X2_turnDead D (kTY cI cC cZ) [.ref a_L, .int p1] (WD6 cI cC cZ a_L a_L_wants a_F a_F_table a_F_spots a_F_points a_F_walls a_F_across a_F_bareLight L_hung L_dead L_standing L_wants F_glow F_spotCount F_pointCount F_wallCount F_table F_spots F_points F_walls F_across F_bareLight) sz (kQV D (kTY cI cC cZ) (va_A (WD6 cI cC cZ a_L a_L_wants a_F a_F_table a_F_spots a_F_points a_F_walls a_F_across a_F_bareLight L_hung L_dead L_standing L_wants F_glow F_spotCount F_pointCount F_wallCount F_table F_spots F_points F_walls F_across F_bareLight) sz) (WD6 cI cC cZ a_L a_L_wants a_F a_F_table a_F_spots a_F_points a_F_walls a_F_across a_F_bareLight u_L_hung u_L_dead L_standing L_wants F_glow F_spotCount F_pointCount F_wallCount F_table F_spots F_points F_walls F_across F_bareLight)) := by
  refine kEnter (lv := [(0, .ref a_L), (1, .int p1)]) (own := RX2) (by decide) rfl (Nat.le_of_ble_eq_true rfl) rfl ?_
  intro p e s m below meth c hsz C0 hP hD hS ls hl
  generalize (va_A (WD6 cI cC cZ a_L a_L_wants a_F a_F_table a_F_spots a_F_points a_F_walls a_F_across a_F_bareLight L_hung L_dead L_standing L_wants F_glow F_spotCount F_pointCount F_wallCount F_table F_spots F_points F_walls F_across F_bareLight) sz) = A at C0 hD hS ⊢
  clear hsz hS
  obtain ⟨H, hHs⟩ : ∃ H : Heap, H = s.heap := ⟨_, rfl⟩
  have hS : va_S A s.heap H [] := by rw [hHs]; exact va_S.rf
  rw [← hHs] at hP ⊢
  obtain ⟨hx, hb, hr, hml, hown, hts, hK, hN, hA, hlocks, hF⟩ := id C0
  have h := hf
  unfold f_X2_turnDead at h
  refine lv_aload_n hx hb dX2_turnDead_0 rfl (lv_at hl 0 rfl) ?_
  refine lv_iload_n hx hb dX2_turnDead_1 rfl (lv_at hl 1 rfl) ?_
  refine lv_aload_n hx hb dX2_turnDead_2 rfl (lv_at hl 0 rfl) ?_
  refine lv_iload_n hx hb dX2_turnDead_3 rfl (lv_at hl 1 rfl) ?_
  obtain ⟨r2, hc1, h⟩ := oc_bind h
  refine kro_i (wc := (WD6 cI cC cZ a_L a_L_wants a_F a_F_table a_F_spots a_F_points a_F_walls a_F_across a_F_bareLight L_hung L_dead L_standing L_wants F_glow F_spotCount F_pointCount F_wallCount F_table F_spots F_points F_walls F_across F_bareLight)) C0 hP hD hS [0, 1, 2, 3, 4, 5, 6, 7, 8] rfl (kV (n := 1) (As := [.int p1]) (rest := [.int p1, .ref a_L]) (wc := (WD6 cI cC cZ a_L a_L_wants a_F a_F_table a_F_spots a_F_points a_F_walls a_F_across a_F_bareLight L_hung L_dead L_standing L_wants F_glow F_spotCount F_pointCount F_wallCount F_table F_spots F_points F_walls F_across F_bareLight)) (C := RX2) C0 hP hD hS [0, 1, 2, 3, 4, 5, 6, 7, 8] rfl (by decide) (c_X2_lampAt l D cI cC cZ a_L a_L_wants a_F a_F_table a_F_spots a_F_points a_F_walls a_F_across a_F_bareLight H.size L_hung L_dead L_standing L_wants F_glow F_spotCount F_pointCount F_wallCount F_table F_spots F_points F_walls F_across F_bareLight p1 r2 hc1) kw_290 kw_440 kw_288 kw_289 kw_23 (by decide +kernel) (by decide) rfl rfl rfl hl.1 rfl (Nat.le_of_ble_eq_true rfl) ⟨Nat.zero_le _, Nat.zero_le _⟩ dX2_turnDead_4) (fun H locs hP hS => ?_)
  refine lv_iconst (v := (2 : Int32)) hx hb dX2_turnDead_7 (by decide) ?_
  refine lv_icmp_ne (tgt := 15) hx hb dX2_turnDead_8 (by decide) (fun c3 => ?_) (fun c3 => ?_)
  · have h := oc_f c3 h
    refine lv_iconst (v := (2 : Int32)) hx hb dX2_turnDead_15 (by decide) ?_
    exact wk_X2_turnDead_16 C0  h hP hD hS (lv_sub hl [] rfl)
  · have h := oc_t c3 h
    refine lv_iconst (v := (1 : Int32)) hx hb dX2_turnDead_11 (by decide) ?_
    refine lv_goto (tgt := 16) hx hb dX2_turnDead_12 (by decide) ?_
    exact wk_X2_turnDead_16 C0  h hP hD hS (lv_sub hl [] rfl)
abbrev rm_X2_turnWall : Room := { frames := 0, cells := 0, slots := 0, locals := 0 }
noncomputable def f_X2_turnWall (L_standing : Int32) (p1 : Int32) : Option (Int32) := nm_ (L_standing ^^^ ((1 : Int32) <<< (p1 &&& 31))) (fun t1 => some t1)
set_option maxHeartbeats 4000000 in
set_option maxRecDepth 100000 in
theorem c_X2_turnWall (l : Launch) (D : va_G) (cI cC cZ : ClassId) (a_L a_L_wants a_F a_F_table a_F_spots a_F_points a_F_walls a_F_across a_F_bareLight : Nat) (sz : Nat) (L_hung : Int32) (L_dead : Int32) (L_standing : Int32) (L_wants : Nat → Int32) (F_glow : Int32) (F_spotCount : Int32) (F_pointCount : Int32) (F_wallCount : Int32) (F_table : Nat → Int32) (F_spots : Nat → Int32) (F_points : Nat → Int32) (F_walls : Nat → Int32) (F_across : Nat → Int32) (F_bareLight : Nat → Int32) (p1 : Int32) (u_L_standing : Int32) (hf : f_X2_turnWall L_standing p1 = some u_L_standing) : kMet l yX2_turnWall cX2_turnWall 2 none rm_X2_turnWall D (kTY cI cC cZ) [.ref a_L, .int p1] (WD6 cI cC cZ a_L a_L_wants a_F a_F_table a_F_spots a_F_points a_F_walls a_F_across a_F_bareLight L_hung L_dead L_standing L_wants F_glow F_spotCount F_pointCount F_wallCount F_table F_spots F_points F_walls F_across F_bareLight) sz (kQV D (kTY cI cC cZ) (va_A (WD6 cI cC cZ a_L a_L_wants a_F a_F_table a_F_spots a_F_points a_F_walls a_F_across a_F_bareLight L_hung L_dead L_standing L_wants F_glow F_spotCount F_pointCount F_wallCount F_table F_spots F_points F_walls F_across F_bareLight) sz) (WD6 cI cC cZ a_L a_L_wants a_F a_F_table a_F_spots a_F_points a_F_walls a_F_across a_F_bareLight L_hung L_dead u_L_standing L_wants F_glow F_spotCount F_pointCount F_wallCount F_table F_spots F_points F_walls F_across F_bareLight)) := by
  refine kEnter (lv := [(0, .ref a_L), (1, .int p1)]) (own := RX2) (by decide) rfl (Nat.le_of_ble_eq_true rfl) rfl ?_
  intro p e s m below meth c hsz C0 hP hD hS ls hl
  generalize (va_A (WD6 cI cC cZ a_L a_L_wants a_F a_F_table a_F_spots a_F_points a_F_walls a_F_across a_F_bareLight L_hung L_dead L_standing L_wants F_glow F_spotCount F_pointCount F_wallCount F_table F_spots F_points F_walls F_across F_bareLight) sz) = A at C0 hD hS ⊢
  clear hsz hS
  obtain ⟨H, hHs⟩ : ∃ H : Heap, H = s.heap := ⟨_, rfl⟩
  have hS : va_S A s.heap H [] := by rw [hHs]; exact va_S.rf
  rw [← hHs] at hP ⊢
  obtain ⟨hx, hb, hr, hml, hown, hts, hK, hN, hA, hlocks, hF⟩ := id C0
  have h := hf
  unfold f_X2_turnWall at h
  refine lv_aload_n hx hb dX2_turnWall_0 rfl (lv_at hl 0 rfl) ?_
  refine lv_dup hx hb dX2_turnWall_1 rfl ?_
  refine va_get (D := D) (ci := 2) (v := .int L_standing) (C := RX2) (T := TX2) (N := 5) hx hb hts inlX2 hown hK hP 0 rfl rfl 4 (by decide) (hts _ kw_258) (fun _ h9 => h9) rfl dX2_turnWall_2 ?_
  refine lv_iconst (v := (1 : Int32)) hx hb dX2_turnWall_5 (by decide) ?_
  refine lv_iload_n hx hb dX2_turnWall_6 rfl (lv_at hl 1 rfl) ?_
  refine lv_ishl hx hb dX2_turnWall_7 ?_
  refine lv_ixor hx hb dX2_turnWall_8 ?_
  refine lv_topi (fun t1 e_t1 => ?_)
  have h := oc_nm e_t1 h
  refine va_put (D := D) (ci := 2) (v := .int t1) (ty := .int) (C := RX2) (T := TX2) (N := 5) hx hb hts inlX2 tyX2 tyX2_ok nmX2 hown hK hP hD hS 0 rfl rfl 4 (by decide) (hts _ kw_258) (fun _ h9 => h9) rfl (by decide +kernel) rfl rfl (Nat.le_of_ble_eq_true rfl) dX2_turnWall_9 (fun H locs hP hD hS => ?_)
  have hP : va_P D vwCl (WD6 cI cC cZ a_L a_L_wants a_F a_F_table a_F_spots a_F_points a_F_walls a_F_across a_F_bareLight L_hung L_dead t1 L_wants F_glow F_spotCount F_pointCount F_wallCount F_table F_spots F_points F_walls F_across F_bareLight) H := hP
  have hD : va_D A (WD6 cI cC cZ a_L a_L_wants a_F a_F_table a_F_spots a_F_points a_F_walls a_F_across a_F_bareLight L_hung L_dead t1 L_wants F_glow F_spotCount F_pointCount F_wallCount F_table F_spots F_points F_walls F_across F_bareLight) := hD
  cases h
  exact kret_v C0 hP hD hS dX2_turnWall_12
abbrev rm_X2_wantOf : Room := { frames := 0, cells := 0, slots := 0, locals := 0 }
noncomputable def f_X2_wantOf (L_wants : Nat → Int32) (p1 : Int32) : Option (Int32) := if p1 < 0 then (some (0 : Int32)) else (if p1 < (6 : Int32) then (if (p1 < 0 ∨ 6 ≤ Int32.toNatClampNeg p1) then none else (some (L_wants (Int32.toNatClampNeg p1)))) else (some (0 : Int32)))
set_option maxHeartbeats 4000000 in
set_option maxRecDepth 100000 in
theorem c_X2_wantOf (l : Launch) (D : va_G) (cI cC cZ : ClassId) (a_L a_L_wants a_F a_F_table a_F_spots a_F_points a_F_walls a_F_across a_F_bareLight : Nat) (sz : Nat) (L_hung : Int32) (L_dead : Int32) (L_standing : Int32) (L_wants : Nat → Int32) (F_glow : Int32) (F_spotCount : Int32) (F_pointCount : Int32) (F_wallCount : Int32) (F_table : Nat → Int32) (F_spots : Nat → Int32) (F_points : Nat → Int32) (F_walls : Nat → Int32) (F_across : Nat → Int32) (F_bareLight : Nat → Int32) (p1 : Int32) (rr : Int32) (hf : f_X2_wantOf L_wants p1 = some rr) : kMet l yX2_wantOf cX2_wantOf 2 (some .int) rm_X2_wantOf D (kTY cI cC cZ) [.ref a_L, .int p1] (WD6 cI cC cZ a_L a_L_wants a_F a_F_table a_F_spots a_F_points a_F_walls a_F_across a_F_bareLight L_hung L_dead L_standing L_wants F_glow F_spotCount F_pointCount F_wallCount F_table F_spots F_points F_walls F_across F_bareLight) sz (kQI D (kTY cI cC cZ) (va_A (WD6 cI cC cZ a_L a_L_wants a_F a_F_table a_F_spots a_F_points a_F_walls a_F_across a_F_bareLight L_hung L_dead L_standing L_wants F_glow F_spotCount F_pointCount F_wallCount F_table F_spots F_points F_walls F_across F_bareLight) sz) rr (WD6 cI cC cZ a_L a_L_wants a_F a_F_table a_F_spots a_F_points a_F_walls a_F_across a_F_bareLight L_hung L_dead L_standing L_wants F_glow F_spotCount F_pointCount F_wallCount F_table F_spots F_points F_walls F_across F_bareLight)) := by
  refine kEnter (lv := [(0, .ref a_L), (1, .int p1)]) (own := RX2) (by decide) rfl (Nat.le_of_ble_eq_true rfl) rfl ?_
  intro p e s m below meth c hsz C0 hP hD hS ls hl
  generalize (va_A (WD6 cI cC cZ a_L a_L_wants a_F a_F_table a_F_spots a_F_points a_F_walls a_F_across a_F_bareLight L_hung L_dead L_standing L_wants F_glow F_spotCount F_pointCount F_wallCount F_table F_spots F_points F_walls F_across F_bareLight) sz) = A at C0 hD hS ⊢
  clear hsz hS
  obtain ⟨H, hHs⟩ : ∃ H : Heap, H = s.heap := ⟨_, rfl⟩
  have hS : va_S A s.heap H [] := by rw [hHs]; exact va_S.rf
  rw [← hHs] at hP ⊢
  obtain ⟨hx, hb, hr, hml, hown, hts, hK, hN, hA, hlocks, hF⟩ := id C0
  have h := hf
  unfold f_X2_wantOf at h
  refine lv_iload_n hx hb dX2_wantOf_0 rfl (lv_at hl 1 rfl) ?_
  refine lv_if_lt (tgt := 10) hx hb dX2_wantOf_1 (by decide) (fun c1 => ?_) (fun c1 => ?_)
  · have h := oc_t c1 h
    refine lv_iconst (v := (0 : Int32)) hx hb dX2_wantOf_10 (by decide) ?_
    refine lv_goto (tgt := 20) hx hb dX2_wantOf_11 (by decide) ?_
    cases h
    exact kret_i C0 hP hD hS rfl dX2_wantOf_20
  · have h := oc_f c1 h
    refine lv_iload_n hx hb dX2_wantOf_4 rfl (lv_at hl 1 rfl) ?_
    refine lv_bipush (v := (6 : Int32)) hx hb dX2_wantOf_5 (by decide) ?_
    refine lv_icmp_lt (tgt := 14) hx hb dX2_wantOf_7 (by decide) (fun c2 => ?_) (fun c2 => ?_)
    · have h := oc_t c2 h
      refine lv_aload_n hx hb dX2_wantOf_14 rfl (lv_at hl 0 rfl) ?_
      refine va_get (D := D) (ci := 2) (v := .ref a_L_wants) (C := RX2) (T := TX2) (N := 5) hx hb hts inlX2 hown hK hP 0 rfl rfl 1 (by decide) (hts _ kw_59) (fun _ h9 => h9) rfl dX2_wantOf_15 ?_
      refine lv_iload_n hx hb dX2_wantOf_18 rfl (lv_at hl 1 rfl) ?_
      obtain ⟨hb3, h⟩ := oc_else h
      refine va_iald hx hb hK hP 1 0 rfl rfl hb3 dX2_wantOf_19 ?_
      cases h
      exact kret_i C0 hP hD hS rfl dX2_wantOf_20
    · have h := oc_f c2 h
      refine lv_iconst (v := (0 : Int32)) hx hb dX2_wantOf_10 (by decide) ?_
      refine lv_goto (tgt := 20) hx hb dX2_wantOf_11 (by decide) ?_
      cases h
      exact kret_i C0 hP hD hS rfl dX2_wantOf_20
abbrev rm_X2_tellWant : Room := { frames := 0, cells := 0, slots := 0, locals := 0 }
noncomputable def f_X2_tellWant (L_wants : Nat → Int32) (p1 : Int32) (p2 : Int32) : Option ((Nat → Int32)) := if p1 < 0 then (some L_wants) else (if (6 : Int32) ≤ p1 then (some L_wants) else (if (p1 < 0 ∨ 6 ≤ Int32.toNatClampNeg p1) then none else (some (upd L_wants (Int32.toNatClampNeg p1) p2))))
set_option maxHeartbeats 4000000 in
set_option maxRecDepth 100000 in
theorem c_X2_tellWant (l : Launch) (D : va_G) (cI cC cZ : ClassId) (a_L a_L_wants a_F a_F_table a_F_spots a_F_points a_F_walls a_F_across a_F_bareLight : Nat) (sz : Nat) (L_hung : Int32) (L_dead : Int32) (L_standing : Int32) (L_wants : Nat → Int32) (F_glow : Int32) (F_spotCount : Int32) (F_pointCount : Int32) (F_wallCount : Int32) (F_table : Nat → Int32) (F_spots : Nat → Int32) (F_points : Nat → Int32) (F_walls : Nat → Int32) (F_across : Nat → Int32) (F_bareLight : Nat → Int32) (p1 : Int32) (p2 : Int32) (u_L_wants : Nat → Int32) (hf : f_X2_tellWant L_wants p1 p2 = some u_L_wants) : kMet l yX2_tellWant cX2_tellWant 3 none rm_X2_tellWant D (kTY cI cC cZ) [.ref a_L, .int p1, .int p2] (WD6 cI cC cZ a_L a_L_wants a_F a_F_table a_F_spots a_F_points a_F_walls a_F_across a_F_bareLight L_hung L_dead L_standing L_wants F_glow F_spotCount F_pointCount F_wallCount F_table F_spots F_points F_walls F_across F_bareLight) sz (kQV D (kTY cI cC cZ) (va_A (WD6 cI cC cZ a_L a_L_wants a_F a_F_table a_F_spots a_F_points a_F_walls a_F_across a_F_bareLight L_hung L_dead L_standing L_wants F_glow F_spotCount F_pointCount F_wallCount F_table F_spots F_points F_walls F_across F_bareLight) sz) (WD6 cI cC cZ a_L a_L_wants a_F a_F_table a_F_spots a_F_points a_F_walls a_F_across a_F_bareLight L_hung L_dead L_standing u_L_wants F_glow F_spotCount F_pointCount F_wallCount F_table F_spots F_points F_walls F_across F_bareLight)) := by
  refine kEnter (lv := [(0, .ref a_L), (1, .int p1), (2, .int p2)]) (own := RX2) (by decide) rfl (Nat.le_of_ble_eq_true rfl) rfl ?_
  intro p e s m below meth c hsz C0 hP hD hS ls hl
  generalize (va_A (WD6 cI cC cZ a_L a_L_wants a_F a_F_table a_F_spots a_F_points a_F_walls a_F_across a_F_bareLight L_hung L_dead L_standing L_wants F_glow F_spotCount F_pointCount F_wallCount F_table F_spots F_points F_walls F_across F_bareLight) sz) = A at C0 hD hS ⊢
  clear hsz hS
  obtain ⟨H, hHs⟩ : ∃ H : Heap, H = s.heap := ⟨_, rfl⟩
  have hS : va_S A s.heap H [] := by rw [hHs]; exact va_S.rf
  rw [← hHs] at hP ⊢
  obtain ⟨hx, hb, hr, hml, hown, hts, hK, hN, hA, hlocks, hF⟩ := id C0
  have h := hf
  unfold f_X2_tellWant at h
  refine lv_iload_n hx hb dX2_tellWant_0 rfl (lv_at hl 1 rfl) ?_
  refine lv_if_lt (tgt := 17) hx hb dX2_tellWant_1 (by decide) (fun c1 => ?_) (fun c1 => ?_)
  · have h := oc_t c1 h
    cases h
    exact kret_v C0 hP hD hS dX2_tellWant_17
  · have h := oc_f c1 h
    refine lv_iload_n hx hb dX2_tellWant_4 rfl (lv_at hl 1 rfl) ?_
    refine lv_bipush (v := (6 : Int32)) hx hb dX2_tellWant_5 (by decide) ?_
    refine lv_icmp_ge (tgt := 17) hx hb dX2_tellWant_7 (by decide) (fun c2 => ?_) (fun c2 => ?_)
    · have h := oc_t c2 h
      cases h
      exact kret_v C0 hP hD hS dX2_tellWant_17
    · have h := oc_f c2 h
      refine lv_aload_n hx hb dX2_tellWant_10 rfl (lv_at hl 0 rfl) ?_
      refine va_get (D := D) (ci := 2) (v := .ref a_L_wants) (C := RX2) (T := TX2) (N := 5) hx hb hts inlX2 hown hK hP 0 rfl rfl 1 (by decide) (hts _ kw_59) (fun _ h9 => h9) rfl dX2_tellWant_11 ?_
      refine lv_iload_n hx hb dX2_tellWant_14 rfl (lv_at hl 1 rfl) ?_
      refine lv_iload_n hx hb dX2_tellWant_15 rfl (lv_at hl 2 rfl) ?_
      obtain ⟨hb3, h⟩ := oc_else h
      refine va_iast hx hb hK hP hD hS 1 0 rfl rfl hb3 dX2_tellWant_16 (fun H locs hP hD hS => ?_)
      have hP : va_P D vwCl (WD6 cI cC cZ a_L a_L_wants a_F a_F_table a_F_spots a_F_points a_F_walls a_F_across a_F_bareLight L_hung L_dead L_standing (upd L_wants (Int32.toNatClampNeg p1) p2) F_glow F_spotCount F_pointCount F_wallCount F_table F_spots F_points F_walls F_across F_bareLight) H := hP
      have hD : va_D A (WD6 cI cC cZ a_L a_L_wants a_F a_F_table a_F_spots a_F_points a_F_walls a_F_across a_F_bareLight L_hung L_dead L_standing (upd L_wants (Int32.toNatClampNeg p1) p2) F_glow F_spotCount F_pointCount F_wallCount F_table F_spots F_points F_walls F_across F_bareLight) := hD
      cases h
      exact kret_v C0 hP hD hS dX2_tellWant_17
abbrev rm_X2_sumOf : Room := { frames := 3, cells := 0, slots := 0, locals := 70 }
noncomputable def f_X2_sumOf (L_hung : Int32) (L_dead : Int32) (L_standing : Int32) (F_glow : Int32) (F_spotCount : Int32) (F_pointCount : Int32) (F_across : Nat → Int32) (F_bareLight : Nat → Int32) (p1 : Int32) : Option (Int32) := (f_X2_live L_hung L_dead).bind (fun r2 => (f_X1_sumAt F_glow F_spotCount F_pointCount F_across F_bareLight p1 r2 L_standing).bind (fun r4 => some r4))
set_option maxHeartbeats 4000000 in
set_option maxRecDepth 100000 in
theorem c_X2_sumOf (l : Launch) (D : va_G) (cI cC cZ : ClassId) (a_L a_L_wants a_F a_F_table a_F_spots a_F_points a_F_walls a_F_across a_F_bareLight : Nat) (sz : Nat) (L_hung : Int32) (L_dead : Int32) (L_standing : Int32) (L_wants : Nat → Int32) (F_glow : Int32) (F_spotCount : Int32) (F_pointCount : Int32) (F_wallCount : Int32) (F_table : Nat → Int32) (F_spots : Nat → Int32) (F_points : Nat → Int32) (F_walls : Nat → Int32) (F_across : Nat → Int32) (F_bareLight : Nat → Int32) (p1 : Int32) (rr : Int32) (hf : f_X2_sumOf L_hung L_dead L_standing F_glow F_spotCount F_pointCount F_across F_bareLight p1 = some rr) : kMet l yX2_sumOf cX2_sumOf 2 (some .int) rm_X2_sumOf D (kTY cI cC cZ) [.ref a_L, .int p1] (WD6 cI cC cZ a_L a_L_wants a_F a_F_table a_F_spots a_F_points a_F_walls a_F_across a_F_bareLight L_hung L_dead L_standing L_wants F_glow F_spotCount F_pointCount F_wallCount F_table F_spots F_points F_walls F_across F_bareLight) sz (kQI D (kTY cI cC cZ) (va_A (WD6 cI cC cZ a_L a_L_wants a_F a_F_table a_F_spots a_F_points a_F_walls a_F_across a_F_bareLight L_hung L_dead L_standing L_wants F_glow F_spotCount F_pointCount F_wallCount F_table F_spots F_points F_walls F_across F_bareLight) sz) rr (WD6 cI cC cZ a_L a_L_wants a_F a_F_table a_F_spots a_F_points a_F_walls a_F_across a_F_bareLight L_hung L_dead L_standing L_wants F_glow F_spotCount F_pointCount F_wallCount F_table F_spots F_points F_walls F_across F_bareLight)) := by
  refine kEnter (lv := [(0, .ref a_L), (1, .int p1)]) (own := RX2) (by decide) rfl (Nat.le_of_ble_eq_true rfl) rfl ?_
  intro p e s m below meth c hsz C0 hP hD hS ls hl
  generalize (va_A (WD6 cI cC cZ a_L a_L_wants a_F a_F_table a_F_spots a_F_points a_F_walls a_F_across a_F_bareLight L_hung L_dead L_standing L_wants F_glow F_spotCount F_pointCount F_wallCount F_table F_spots F_points F_walls F_across F_bareLight) sz) = A at C0 hD hS ⊢
  clear hsz hS
  obtain ⟨H, hHs⟩ : ∃ H : Heap, H = s.heap := ⟨_, rfl⟩
  have hS : va_S A s.heap H [] := by rw [hHs]; exact va_S.rf
  rw [← hHs] at hP ⊢
  obtain ⟨hx, hb, hr, hml, hown, hts, hK, hN, hA, hlocks, hF⟩ := id C0
  have h := hf
  unfold f_X2_sumOf at h
  refine lv_aload_n hx hb dX2_sumOf_0 rfl (lv_at hl 0 rfl) ?_
  refine va_get (D := D) (ci := 2) (v := .ref a_F) (C := RX2) (T := TX2) (N := 5) hx hb hts inlX2 hown hK hP 0 rfl rfl 0 (by decide) (hts _ kw_60) (fun _ h9 => h9) rfl dX2_sumOf_1 ?_
  refine lv_iload_n hx hb dX2_sumOf_4 rfl (lv_at hl 1 rfl) ?_
  refine lv_aload_n hx hb dX2_sumOf_5 rfl (lv_at hl 0 rfl) ?_
  obtain ⟨r2, hc1, h⟩ := oc_bind h
  refine kro_i (wc := (WD6 cI cC cZ a_L a_L_wants a_F a_F_table a_F_spots a_F_points a_F_walls a_F_across a_F_bareLight L_hung L_dead L_standing L_wants F_glow F_spotCount F_pointCount F_wallCount F_table F_spots F_points F_walls F_across F_bareLight)) C0 hP hD hS [0, 1, 2, 3, 4, 5, 6, 7, 8] rfl (kV (n := 0) (As := []) (rest := [.int p1, .ref a_F]) (wc := (WD6 cI cC cZ a_L a_L_wants a_F a_F_table a_F_spots a_F_points a_F_walls a_F_across a_F_bareLight L_hung L_dead L_standing L_wants F_glow F_spotCount F_pointCount F_wallCount F_table F_spots F_points F_walls F_across F_bareLight)) (C := RX2) C0 hP hD hS [0, 1, 2, 3, 4, 5, 6, 7, 8] rfl (by decide) (c_X2_live l D cI cC cZ a_L a_L_wants a_F a_F_table a_F_spots a_F_points a_F_walls a_F_across a_F_bareLight H.size L_hung L_dead L_standing L_wants F_glow F_spotCount F_pointCount F_wallCount F_table F_spots F_points F_walls F_across F_bareLight  r2 hc1) kw_313 kw_310 kw_311 kw_312 kw_23 (by decide +kernel) (by decide) rfl rfl rfl hl.1 rfl (Nat.le_of_ble_eq_true rfl) ⟨Nat.zero_le _, Nat.zero_le _⟩ dX2_sumOf_6) (fun H locs hP hS => ?_)
  refine lv_aload_n hx hb dX2_sumOf_9 rfl (lv_at hl 0 rfl) ?_
  refine va_get (D := D) (ci := 2) (v := .int L_standing) (C := RX2) (T := TX2) (N := 5) hx hb hts inlX2 hown hK hP 0 rfl rfl 4 (by decide) (hts _ kw_258) (fun _ h9 => h9) rfl dX2_sumOf_10 ?_
  obtain ⟨r4, hc3, h⟩ := oc_bind h
  refine kro_i (wc := (WD2 cI cC cZ a_F a_F_table a_F_spots a_F_points a_F_walls a_F_across a_F_bareLight F_glow F_spotCount F_pointCount F_wallCount F_table F_spots F_points F_walls F_across F_bareLight)) C0 hP hD hS [2, 3, 4, 5, 6, 7, 8] rfl (kVN (n := 3) (As := [.int p1, .int r2, .int L_standing]) (rest := []) (wc := (WD2 cI cC cZ a_F a_F_table a_F_spots a_F_points a_F_walls a_F_across a_F_bareLight F_glow F_spotCount F_pointCount F_wallCount F_table F_spots F_points F_walls F_across F_bareLight)) (C := RX1) C0 hP hD hS [2, 3, 4, 5, 6, 7, 8] rfl (by decide) (c_X1_sumAt l D cI cC cZ a_F a_F_table a_F_spots a_F_points a_F_walls a_F_across a_F_bareLight H.size F_glow F_spotCount F_pointCount F_wallCount F_table F_spots F_points F_walls F_across F_bareLight p1 r2 L_standing r4 hc3) kw_316 (ks_m21 hN) kw_314 kw_315 kw_19 (by decide +kernel) (by decide) rfl rfl rfl hl.1 rfl (Nat.le_of_ble_eq_true rfl) ⟨Nat.zero_le _, Nat.zero_le _⟩ dX2_sumOf_13) (fun H locs hP hS => ?_)
  cases h
  exact kret_i C0 hP hD hS rfl dX2_sumOf_16
abbrev rm_X2_isServed : Room := { frames := 4, cells := 0, slots := 0, locals := 91 }
noncomputable def f_X2_isServed (L_hung : Int32) (L_dead : Int32) (L_standing : Int32) (L_wants : Nat → Int32) (F_glow : Int32) (F_spotCount : Int32) (F_pointCount : Int32) (F_across : Nat → Int32) (F_bareLight : Nat → Int32) (p1 : Int32) : Option (Int32) := (f_X2_sumOf L_hung L_dead L_standing F_glow F_spotCount F_pointCount F_across F_bareLight p1).bind (fun r2 => (f_X2_wantOf L_wants p1).bind (fun r4 => if r2 < r4 then (some (0 : Int32)) else (some (1 : Int32))))
set_option maxHeartbeats 4000000 in
set_option maxRecDepth 100000 in
theorem c_X2_isServed (l : Launch) (D : va_G) (cI cC cZ : ClassId) (a_L a_L_wants a_F a_F_table a_F_spots a_F_points a_F_walls a_F_across a_F_bareLight : Nat) (sz : Nat) (L_hung : Int32) (L_dead : Int32) (L_standing : Int32) (L_wants : Nat → Int32) (F_glow : Int32) (F_spotCount : Int32) (F_pointCount : Int32) (F_wallCount : Int32) (F_table : Nat → Int32) (F_spots : Nat → Int32) (F_points : Nat → Int32) (F_walls : Nat → Int32) (F_across : Nat → Int32) (F_bareLight : Nat → Int32) (p1 : Int32) (rr : Int32) (hf : f_X2_isServed L_hung L_dead L_standing L_wants F_glow F_spotCount F_pointCount F_across F_bareLight p1 = some rr) : kMet l yX2_isServed cX2_isServed 2 (some .boolean) rm_X2_isServed D (kTY cI cC cZ) [.ref a_L, .int p1] (WD6 cI cC cZ a_L a_L_wants a_F a_F_table a_F_spots a_F_points a_F_walls a_F_across a_F_bareLight L_hung L_dead L_standing L_wants F_glow F_spotCount F_pointCount F_wallCount F_table F_spots F_points F_walls F_across F_bareLight) sz (kQI D (kTY cI cC cZ) (va_A (WD6 cI cC cZ a_L a_L_wants a_F a_F_table a_F_spots a_F_points a_F_walls a_F_across a_F_bareLight L_hung L_dead L_standing L_wants F_glow F_spotCount F_pointCount F_wallCount F_table F_spots F_points F_walls F_across F_bareLight) sz) rr (WD6 cI cC cZ a_L a_L_wants a_F a_F_table a_F_spots a_F_points a_F_walls a_F_across a_F_bareLight L_hung L_dead L_standing L_wants F_glow F_spotCount F_pointCount F_wallCount F_table F_spots F_points F_walls F_across F_bareLight)) := by
  refine kEnter (lv := [(0, .ref a_L), (1, .int p1)]) (own := RX2) (by decide) rfl (Nat.le_of_ble_eq_true rfl) rfl ?_
  intro p e s m below meth c hsz C0 hP hD hS ls hl
  generalize (va_A (WD6 cI cC cZ a_L a_L_wants a_F a_F_table a_F_spots a_F_points a_F_walls a_F_across a_F_bareLight L_hung L_dead L_standing L_wants F_glow F_spotCount F_pointCount F_wallCount F_table F_spots F_points F_walls F_across F_bareLight) sz) = A at C0 hD hS ⊢
  clear hsz hS
  obtain ⟨H, hHs⟩ : ∃ H : Heap, H = s.heap := ⟨_, rfl⟩
  have hS : va_S A s.heap H [] := by rw [hHs]; exact va_S.rf
  rw [← hHs] at hP ⊢
  obtain ⟨hx, hb, hr, hml, hown, hts, hK, hN, hA, hlocks, hF⟩ := id C0
  have h := hf
  unfold f_X2_isServed at h
  refine lv_aload_n hx hb dX2_isServed_0 rfl (lv_at hl 0 rfl) ?_
  refine lv_iload_n hx hb dX2_isServed_1 rfl (lv_at hl 1 rfl) ?_
  obtain ⟨r2, hc1, h⟩ := oc_bind h
  refine kro_i (wc := (WD6 cI cC cZ a_L a_L_wants a_F a_F_table a_F_spots a_F_points a_F_walls a_F_across a_F_bareLight L_hung L_dead L_standing L_wants F_glow F_spotCount F_pointCount F_wallCount F_table F_spots F_points F_walls F_across F_bareLight)) C0 hP hD hS [0, 1, 2, 3, 4, 5, 6, 7, 8] rfl (kV (n := 1) (As := [.int p1]) (rest := []) (wc := (WD6 cI cC cZ a_L a_L_wants a_F a_F_table a_F_spots a_F_points a_F_walls a_F_across a_F_bareLight L_hung L_dead L_standing L_wants F_glow F_spotCount F_pointCount F_wallCount F_table F_spots F_points F_walls F_across F_bareLight)) (C := RX2) C0 hP hD hS [0, 1, 2, 3, 4, 5, 6, 7, 8] rfl (by decide) (c_X2_sumOf l D cI cC cZ a_L a_L_wants a_F a_F_table a_F_spots a_F_points a_F_walls a_F_across a_F_bareLight H.size L_hung L_dead L_standing L_wants F_glow F_spotCount F_pointCount F_wallCount F_table F_spots F_points F_walls F_across F_bareLight p1 r2 hc1) kw_309 kw_326 kw_307 kw_308 kw_23 (by decide +kernel) (by decide) rfl rfl rfl hl.1 rfl (Nat.le_of_ble_eq_true rfl) ⟨Nat.zero_le _, Nat.zero_le _⟩ dX2_isServed_2) (fun H locs hP hS => ?_)
  refine lv_aload_n hx hb dX2_isServed_5 rfl (lv_at hl 0 rfl) ?_
  refine lv_iload_n hx hb dX2_isServed_6 rfl (lv_at hl 1 rfl) ?_
  obtain ⟨r4, hc3, h⟩ := oc_bind h
  refine kro_i (wc := (WD6 cI cC cZ a_L a_L_wants a_F a_F_table a_F_spots a_F_points a_F_walls a_F_across a_F_bareLight L_hung L_dead L_standing L_wants F_glow F_spotCount F_pointCount F_wallCount F_table F_spots F_points F_walls F_across F_bareLight)) C0 hP hD hS [0, 1, 2, 3, 4, 5, 6, 7, 8] rfl (kV (n := 1) (As := [.int p1]) (rest := [.int r2]) (wc := (WD6 cI cC cZ a_L a_L_wants a_F a_F_table a_F_spots a_F_points a_F_walls a_F_across a_F_bareLight L_hung L_dead L_standing L_wants F_glow F_spotCount F_pointCount F_wallCount F_table F_spots F_points F_walls F_across F_bareLight)) (C := RX2) C0 hP hD hS [0, 1, 2, 3, 4, 5, 6, 7, 8] rfl (by decide) (c_X2_wantOf l D cI cC cZ a_L a_L_wants a_F a_F_table a_F_spots a_F_points a_F_walls a_F_across a_F_bareLight H.size L_hung L_dead L_standing L_wants F_glow F_spotCount F_pointCount F_wallCount F_table F_spots F_points F_walls F_across F_bareLight p1 r4 hc3) kw_306 kw_327 kw_304 kw_305 kw_23 (by decide +kernel) (by decide) rfl rfl rfl hl.1 rfl (Nat.le_of_ble_eq_true rfl) ⟨Nat.zero_le _, Nat.zero_le _⟩ dX2_isServed_7) (fun H locs hP hS => ?_)
  refine lv_icmp_lt (tgt := 17) hx hb dX2_isServed_10 (by decide) (fun c5 => ?_) (fun c5 => ?_)
  · have h := oc_t c5 h
    refine lv_iconst (v := (0 : Int32)) hx hb dX2_isServed_17 (by decide) ?_
    cases h
    exact kret_i C0 hP hD hS (by decide) dX2_isServed_18
  · have h := oc_f c5 h
    refine lv_iconst (v := (1 : Int32)) hx hb dX2_isServed_13 (by decide) ?_
    refine lv_goto (tgt := 18) hx hb dX2_isServed_14 (by decide) ?_
    cases h
    exact kret_i C0 hP hD hS (by decide) dX2_isServed_18
abbrev rm_X2_servedPoints : Room := { frames := 3, cells := 0, slots := 0, locals := 70 }
noncomputable def bk_X2_servedPoints_5 (k5 : Int32 → Int32 → Option (Int32)) (L_wants : Nat → Int32) (F_glow : Int32) (F_spotCount : Int32) (F_pointCount : Int32) (F_across : Nat → Int32) (F_bareLight : Nat → Int32) (p1 : Int32) (p2 : Int32) (p3 : Int32) (p4 : Int32) : Option (Int32) := if F_pointCount ≤ p4 then (some p3) else ((f_X1_sumAt F_glow F_spotCount F_pointCount F_across F_bareLight p4 p1 p2).bind (fun r3 => (f_X2_wantOf L_wants p4).bind (fun r5 => if r3 < r5 then (nm_ (p4 + (1 : Int32)) (fun t7 => k5 p3 t7)) else (nm_ (p3 ||| ((1 : Int32) <<< (p4 &&& 31))) (fun t8 => nm_ (p4 + (1 : Int32)) (fun t9 => k5 t8 t9))))))
set_option maxHeartbeats 4000000 in
set_option maxRecDepth 100000 in
theorem wk_X2_servedPoints_5 {p : Program} {l : Launch} {e : Env} {s : State} {m : MethodId} {args : Array Value} {below : List Frame} {meth : Method} {c : Code} {D : va_G} {cI cC cZ : ClassId} {A : Nat → Prop} {a_L a_L_wants a_F a_F_table a_F_spots a_F_points a_F_walls a_F_across a_F_bareLight : Nat} {L_hung : Int32} {L_dead : Int32} {L_standing : Int32} {L_wants : Nat → Int32} {F_glow : Int32} {F_spotCount : Int32} {F_pointCount : Int32} {F_wallCount : Int32} {F_table : Nat → Int32} {F_spots : Nat → Int32} {F_points : Nat → Int32} {F_walls : Nat → Int32} {F_across : Nat → Int32} {F_bareLight : Nat → Int32} {p1 : Int32} {p2 : Int32} {p3 : Int32} {p4 : Int32} {k5 : Int32 → Int32 → Option (Int32)} {rr : Int32} (C0 : kC p s m args meth c D (kTY cI cC cZ) cX2_servedPoints (some .int) 5 RX2 A) (hk5 : ∀ (p3_k : Int32) (p4_k : Int32), k5 p3_k p4_k = some rr → ∀ (H : Heap) (locs : List Loc), va_P D vwCl (WD6 cI cC cZ a_L a_L_wants a_F a_F_table a_F_spots a_F_points a_F_walls a_F_across a_F_bareLight L_hung L_dead L_standing L_wants F_glow F_spotCount F_pointCount F_wallCount F_table F_spots F_points F_walls F_across F_bareLight) H → va_D A (WD6 cI cC cZ a_L a_L_wants a_F a_F_table a_F_spots a_F_points a_F_walls a_F_across a_F_bareLight L_hung L_dead L_standing L_wants F_glow F_spotCount F_pointCount F_wallCount F_table F_spots F_points F_walls F_across F_bareLight) → va_S A s.heap H locs → ∀ ls : Array Slot, lv_has ls 5 [(0, .ref a_L), (1, .int p1), (2, .int p2), (3, .int p3_k), (4, .int p4_k)] → W p l e rm_X2_servedPoints s m args below meth c H locs 0 0 (MQ below (kQI D (kTY cI cC cZ) A rr (WD6 cI cC cZ a_L a_L_wants a_F a_F_table a_F_spots a_F_points a_F_walls a_F_across a_F_bareLight L_hung L_dead L_standing L_wants F_glow F_spotCount F_pointCount F_wallCount F_table F_spots F_points F_walls F_across F_bareLight)) args s 0 0 A) (F0 m 5 ls [])) (h : bk_X2_servedPoints_5 k5 L_wants F_glow F_spotCount F_pointCount F_across F_bareLight p1 p2 p3 p4 = some rr) {H : Heap} {locs : List Loc} (hP : va_P D vwCl (WD6 cI cC cZ a_L a_L_wants a_F a_F_table a_F_spots a_F_points a_F_walls a_F_across a_F_bareLight L_hung L_dead L_standing L_wants F_glow F_spotCount F_pointCount F_wallCount F_table F_spots F_points F_walls F_across F_bareLight) H) (hD : va_D A (WD6 cI cC cZ a_L a_L_wants a_F a_F_table a_F_spots a_F_points a_F_walls a_F_across a_F_bareLight L_hung L_dead L_standing L_wants F_glow F_spotCount F_pointCount F_wallCount F_table F_spots F_points F_walls F_across F_bareLight)) (hS : va_S A s.heap H locs) {ls : Array Slot} (hl : lv_has ls 5 [(0, .ref a_L), (1, .int p1), (2, .int p2), (3, .int p3), (4, .int p4)]) : W p l e rm_X2_servedPoints s m args below meth c H locs 0 0 (MQ below (kQI D (kTY cI cC cZ) A rr (WD6 cI cC cZ a_L a_L_wants a_F a_F_table a_F_spots a_F_points a_F_walls a_F_across a_F_bareLight L_hung L_dead L_standing L_wants F_glow F_spotCount F_pointCount F_wallCount F_table F_spots F_points F_walls F_across F_bareLight)) args s 0 0 A) (F0 m 5 ls []) := by
  obtain ⟨hx, hb, hr, hml, hown, hts, hK, hN, hA, hlocks, hF⟩ := id C0
  unfold bk_X2_servedPoints_5 at h
  refine lv_iload hx hb dX2_servedPoints_5 (lv_at hl 4 rfl) ?_
  refine lv_aload_n hx hb dX2_servedPoints_7 rfl (lv_at hl 0 rfl) ?_
  refine va_get (D := D) (ci := 2) (v := .ref a_F) (C := RX2) (T := TX2) (N := 5) hx hb hts inlX2 hown hK hP 0 rfl rfl 0 (by decide) (hts _ kw_60) (fun _ h9 => h9) rfl dX2_servedPoints_8 ?_
  refine va_getN (D := D) (ci := 1) (v := .int F_pointCount) (C := RX1) (T := TX1) (N := 10) hx hb hts inlX1 hown hK hP 2 rfl rfl 8 (by decide) (va_Nw.use rfl (ks_f7 hN)) (fun _ h9 => h9) rfl dX2_servedPoints_11 ?_
  refine lv_icmp_ge (tgt := 50) hx hb dX2_servedPoints_14 (by decide) (fun c1 => ?_) (fun c1 => ?_)
  · have h := oc_t c1 h
    refine lv_iload_n hx hb dX2_servedPoints_50 rfl (lv_at hl 3 rfl) ?_
    cases h
    exact kret_i C0 hP hD hS rfl dX2_servedPoints_51
  · have h := oc_f c1 h
    refine lv_aload_n hx hb dX2_servedPoints_17 rfl (lv_at hl 0 rfl) ?_
    refine va_get (D := D) (ci := 2) (v := .ref a_F) (C := RX2) (T := TX2) (N := 5) hx hb hts inlX2 hown hK hP 0 rfl rfl 0 (by decide) (hts _ kw_60) (fun _ h9 => h9) rfl dX2_servedPoints_18 ?_
    refine lv_iload hx hb dX2_servedPoints_21 (lv_at hl 4 rfl) ?_
    refine lv_iload_n hx hb dX2_servedPoints_23 rfl (lv_at hl 1 rfl) ?_
    refine lv_iload_n hx hb dX2_servedPoints_24 rfl (lv_at hl 2 rfl) ?_
    obtain ⟨r3, hc2, h⟩ := oc_bind h
    refine kro_i (wc := (WD2 cI cC cZ a_F a_F_table a_F_spots a_F_points a_F_walls a_F_across a_F_bareLight F_glow F_spotCount F_pointCount F_wallCount F_table F_spots F_points F_walls F_across F_bareLight)) C0 hP hD hS [2, 3, 4, 5, 6, 7, 8] rfl (kVN (n := 3) (As := [.int p4, .int p1, .int p2]) (rest := []) (wc := (WD2 cI cC cZ a_F a_F_table a_F_spots a_F_points a_F_walls a_F_across a_F_bareLight F_glow F_spotCount F_pointCount F_wallCount F_table F_spots F_points F_walls F_across F_bareLight)) (C := RX1) C0 hP hD hS [2, 3, 4, 5, 6, 7, 8] rfl (by decide) (c_X1_sumAt l D cI cC cZ a_F a_F_table a_F_spots a_F_points a_F_walls a_F_across a_F_bareLight H.size F_glow F_spotCount F_pointCount F_wallCount F_table F_spots F_points F_walls F_across F_bareLight p4 p1 p2 r3 hc2) kw_316 (ks_m21 hN) kw_314 kw_315 kw_19 (by decide +kernel) (by decide) rfl rfl rfl hl.1 rfl (Nat.le_of_ble_eq_true rfl) ⟨Nat.zero_le _, Nat.zero_le _⟩ dX2_servedPoints_25) (fun H locs hP hS => ?_)
    refine lv_aload_n hx hb dX2_servedPoints_28 rfl (lv_at hl 0 rfl) ?_
    refine lv_iload hx hb dX2_servedPoints_29 (lv_at hl 4 rfl) ?_
    obtain ⟨r5, hc4, h⟩ := oc_bind h
    refine kro_i (wc := (WD6 cI cC cZ a_L a_L_wants a_F a_F_table a_F_spots a_F_points a_F_walls a_F_across a_F_bareLight L_hung L_dead L_standing L_wants F_glow F_spotCount F_pointCount F_wallCount F_table F_spots F_points F_walls F_across F_bareLight)) C0 hP hD hS [0, 1, 2, 3, 4, 5, 6, 7, 8] rfl (kV (n := 1) (As := [.int p4]) (rest := [.int r3]) (wc := (WD6 cI cC cZ a_L a_L_wants a_F a_F_table a_F_spots a_F_points a_F_walls a_F_across a_F_bareLight L_hung L_dead L_standing L_wants F_glow F_spotCount F_pointCount F_wallCount F_table F_spots F_points F_walls F_across F_bareLight)) (C := RX2) C0 hP hD hS [0, 1, 2, 3, 4, 5, 6, 7, 8] rfl (by decide) (c_X2_wantOf l D cI cC cZ a_L a_L_wants a_F a_F_table a_F_spots a_F_points a_F_walls a_F_across a_F_bareLight H.size L_hung L_dead L_standing L_wants F_glow F_spotCount F_pointCount F_wallCount F_table F_spots F_points F_walls F_across F_bareLight p4 r5 hc4) kw_306 kw_327 kw_304 kw_305 kw_23 (by decide +kernel) (by decide) rfl rfl rfl hl.1 rfl (Nat.le_of_ble_eq_true rfl) ⟨Nat.zero_le _, Nat.zero_le _⟩ dX2_servedPoints_31) (fun H locs hP hS => ?_)
    refine lv_icmp_lt (tgt := 44) hx hb dX2_servedPoints_34 (by decide) (fun c6 => ?_) (fun c6 => ?_)
    · have h := oc_t c6 h
      obtain ⟨t7, e_t7⟩ : ∃ y : Int32, y = p4 + (1 : Int32) := ⟨_, rfl⟩
      have h := oc_nm e_t7 h
      refine lv_iinc (v := t7) (lv' := [(4, .int t7), (0, .ref a_L), (1, .int p1), (2, .int p2), (3, .int p3)]) hx hb dX2_servedPoints_44 hl (k := 4) rfl (by rw [e_t7]; rfl) (by decide) rfl (fun ls hl => ?_)
      refine lv_goto (tgt := 5) hx hb dX2_servedPoints_47 (by decide) ?_
      exact hk5 _ _ h _ _ hP hD hS _ (lv_sub hl [1, 2, 3, 4, 0] rfl)
    · have h := oc_f c6 h
      refine lv_iload_n hx hb dX2_servedPoints_37 rfl (lv_at hl 3 rfl) ?_
      refine lv_iconst (v := (1 : Int32)) hx hb dX2_servedPoints_38 (by decide) ?_
      refine lv_iload hx hb dX2_servedPoints_39 (lv_at hl 4 rfl) ?_
      refine lv_ishl hx hb dX2_servedPoints_41 ?_
      refine lv_ior hx hb dX2_servedPoints_42 ?_
      refine lv_topi (fun t8 e_t8 => ?_)
      have h := oc_nm e_t8 h
      refine lv_istore_n (lv' := [(3, .int t8), (0, .ref a_L), (1, .int p1), (2, .int p2), (4, .int p4)]) hx hb dX2_servedPoints_43 rfl hl (by decide) rfl (fun ls hl => ?_)
      obtain ⟨t9, e_t9⟩ : ∃ y : Int32, y = p4 + (1 : Int32) := ⟨_, rfl⟩
      have h := oc_nm e_t9 h
      refine lv_iinc (v := t9) (lv' := [(4, .int t9), (3, .int t8), (0, .ref a_L), (1, .int p1), (2, .int p2)]) hx hb dX2_servedPoints_44 hl (k := 4) rfl (by rw [e_t9]; rfl) (by decide) rfl (fun ls hl => ?_)
      refine lv_goto (tgt := 5) hx hb dX2_servedPoints_47 (by decide) ?_
      exact hk5 _ _ h _ _ hP hD hS _ (lv_sub hl [2, 3, 4, 1, 0] rfl)
noncomputable def lp_X2_servedPoints_5  (L_wants : Nat → Int32) (F_glow : Int32) (F_spotCount : Int32) (F_pointCount : Int32) (F_across : Nat → Int32) (F_bareLight : Nat → Int32) (p1 : Int32) (p2 : Int32) (n : Nat) : Int32 → Int32 → Option (Int32) := Nat.rec (motive := fun _ => Int32 → Int32 → Option (Int32)) (fun _ _ => none) (fun _ ih => bk_X2_servedPoints_5  ih L_wants F_glow F_spotCount F_pointCount F_across F_bareLight p1 p2) n
set_option maxHeartbeats 4000000 in
set_option maxRecDepth 100000 in
theorem wl_X2_servedPoints_5 {p : Program} {l : Launch} {e : Env} {s : State} {m : MethodId} {args : Array Value} {below : List Frame} {meth : Method} {c : Code} {D : va_G} {cI cC cZ : ClassId} {A : Nat → Prop} {a_L a_L_wants a_F a_F_table a_F_spots a_F_points a_F_walls a_F_across a_F_bareLight : Nat} {L_hung : Int32} {L_dead : Int32} {L_standing : Int32} {L_wants : Nat → Int32} {F_glow : Int32} {F_spotCount : Int32} {F_pointCount : Int32} {F_wallCount : Int32} {F_table : Nat → Int32} {F_spots : Nat → Int32} {F_points : Nat → Int32} {F_walls : Nat → Int32} {F_across : Nat → Int32} {F_bareLight : Nat → Int32} {p1 : Int32} {p2 : Int32}  {rr : Int32} (C0 : kC p s m args meth c D (kTY cI cC cZ) cX2_servedPoints (some .int) 5 RX2 A)  : ∀ (n : Nat) (p3 : Int32) (p4 : Int32), lp_X2_servedPoints_5  L_wants F_glow F_spotCount F_pointCount F_across F_bareLight p1 p2 n p3 p4 = some rr → ∀ (H : Heap) (locs : List Loc), va_P D vwCl (WD6 cI cC cZ a_L a_L_wants a_F a_F_table a_F_spots a_F_points a_F_walls a_F_across a_F_bareLight L_hung L_dead L_standing L_wants F_glow F_spotCount F_pointCount F_wallCount F_table F_spots F_points F_walls F_across F_bareLight) H → va_D A (WD6 cI cC cZ a_L a_L_wants a_F a_F_table a_F_spots a_F_points a_F_walls a_F_across a_F_bareLight L_hung L_dead L_standing L_wants F_glow F_spotCount F_pointCount F_wallCount F_table F_spots F_points F_walls F_across F_bareLight) → va_S A s.heap H locs → ∀ ls : Array Slot, lv_has ls 5 [(0, .ref a_L), (1, .int p1), (2, .int p2), (3, .int p3), (4, .int p4)] → W p l e rm_X2_servedPoints s m args below meth c H locs 0 0 (MQ below (kQI D (kTY cI cC cZ) A rr (WD6 cI cC cZ a_L a_L_wants a_F a_F_table a_F_spots a_F_points a_F_walls a_F_across a_F_bareLight L_hung L_dead L_standing L_wants F_glow F_spotCount F_pointCount F_wallCount F_table F_spots F_points F_walls F_across F_bareLight)) args s 0 0 A) (F0 m 5 ls []) := by
  intro n
  induction n with
  | zero => intro p3 p4 h; cases (show (none : Option (Int32)) = some _ from h)
  | succ n ih =>
    intro p3 p4 h H locs hP hD hS ls hl
    exact wk_X2_servedPoints_5 C0  (fun p3 p4 h H locs hP hD hS ls hl => ih p3 p4 h H locs hP hD hS ls hl) (show bk_X2_servedPoints_5  (lp_X2_servedPoints_5  L_wants F_glow F_spotCount F_pointCount F_across F_bareLight p1 p2 n) L_wants F_glow F_spotCount F_pointCount F_across F_bareLight p1 p2 p3 p4 = some _ from h) hP hD hS hl
noncomputable def f_X2_servedPoints (L_wants : Nat → Int32) (F_glow : Int32) (F_spotCount : Int32) (F_pointCount : Int32) (F_across : Nat → Int32) (F_bareLight : Nat → Int32) (p1 : Int32) (p2 : Int32) : Option (Int32) := lp_X2_servedPoints_5  L_wants F_glow F_spotCount F_pointCount F_across F_bareLight p1 p2 1000 (0 : Int32) (0 : Int32)
set_option maxHeartbeats 4000000 in
set_option maxRecDepth 100000 in
theorem c_X2_servedPoints (l : Launch) (D : va_G) (cI cC cZ : ClassId) (a_L a_L_wants a_F a_F_table a_F_spots a_F_points a_F_walls a_F_across a_F_bareLight : Nat) (sz : Nat) (L_hung : Int32) (L_dead : Int32) (L_standing : Int32) (L_wants : Nat → Int32) (F_glow : Int32) (F_spotCount : Int32) (F_pointCount : Int32) (F_wallCount : Int32) (F_table : Nat → Int32) (F_spots : Nat → Int32) (F_points : Nat → Int32) (F_walls : Nat → Int32) (F_across : Nat → Int32) (F_bareLight : Nat → Int32) (p1 : Int32) (p2 : Int32) (rr : Int32) (hf : f_X2_servedPoints L_wants F_glow F_spotCount F_pointCount F_across F_bareLight p1 p2 = some rr) : kMet l yX2_servedPoints cX2_servedPoints 5 (some .int) rm_X2_servedPoints D (kTY cI cC cZ) [.ref a_L, .int p1, .int p2] (WD6 cI cC cZ a_L a_L_wants a_F a_F_table a_F_spots a_F_points a_F_walls a_F_across a_F_bareLight L_hung L_dead L_standing L_wants F_glow F_spotCount F_pointCount F_wallCount F_table F_spots F_points F_walls F_across F_bareLight) sz (kQI D (kTY cI cC cZ) (va_A (WD6 cI cC cZ a_L a_L_wants a_F a_F_table a_F_spots a_F_points a_F_walls a_F_across a_F_bareLight L_hung L_dead L_standing L_wants F_glow F_spotCount F_pointCount F_wallCount F_table F_spots F_points F_walls F_across F_bareLight) sz) rr (WD6 cI cC cZ a_L a_L_wants a_F a_F_table a_F_spots a_F_points a_F_walls a_F_across a_F_bareLight L_hung L_dead L_standing L_wants F_glow F_spotCount F_pointCount F_wallCount F_table F_spots F_points F_walls F_across F_bareLight)) := by
  refine kEnter (lv := [(0, .ref a_L), (1, .int p1), (2, .int p2)]) (own := RX2) (by decide) rfl (Nat.le_of_ble_eq_true rfl) rfl ?_
  intro p e s m below meth c hsz C0 hP hD hS ls hl
  generalize (va_A (WD6 cI cC cZ a_L a_L_wants a_F a_F_table a_F_spots a_F_points a_F_walls a_F_across a_F_bareLight L_hung L_dead L_standing L_wants F_glow F_spotCount F_pointCount F_wallCount F_table F_spots F_points F_walls F_across F_bareLight) sz) = A at C0 hD hS ⊢
  clear hsz hS
  obtain ⟨H, hHs⟩ : ∃ H : Heap, H = s.heap := ⟨_, rfl⟩
  have hS : va_S A s.heap H [] := by rw [hHs]; exact va_S.rf
  rw [← hHs] at hP ⊢
  obtain ⟨hx, hb, hr, hml, hown, hts, hK, hN, hA, hlocks, hF⟩ := id C0
  have h := hf
  unfold f_X2_servedPoints at h
  refine lv_iconst (v := (0 : Int32)) hx hb dX2_servedPoints_0 (by decide) ?_
  refine lv_istore_n (lv' := [(3, .int (0 : Int32)), (0, .ref a_L), (1, .int p1), (2, .int p2)]) hx hb dX2_servedPoints_1 rfl hl (by decide) rfl (fun ls hl => ?_)
  refine lv_iconst (v := (0 : Int32)) hx hb dX2_servedPoints_2 (by decide) ?_
  refine lv_istore (lv' := [(4, .int (0 : Int32)), (3, .int (0 : Int32)), (0, .ref a_L), (1, .int p1), (2, .int p2)]) hx hb dX2_servedPoints_3 hl (by decide) rfl (fun ls hl => ?_)
  exact wl_X2_servedPoints_5 C0  _ _ _ h _ _ hP hD hS _ (lv_sub hl [2, 3, 4, 1, 0] rfl)
abbrev rm_X2_rankOf : Room := { frames := 4, cells := 0, slots := 0, locals := 94 }
noncomputable def f_X2_rankOf (L_wants : Nat → Int32) (F_glow : Int32) (F_spotCount : Int32) (F_pointCount : Int32) (F_across : Nat → Int32) (F_bareLight : Nat → Int32) (p1 : Int32) (p2 : Int32) : Option (Int32) := (f_X2_servedPoints L_wants F_glow F_spotCount F_pointCount F_across F_bareLight p1 p2).bind (fun r2 => (f_J6_bitCount r2).bind (fun r4 => (f_X1_sumOfAll F_glow F_spotCount F_pointCount F_across F_bareLight p1 p2).bind (fun r6 => some ((r4 * (10000 : Int32)) + r6))))
set_option maxHeartbeats 4000000 in
set_option maxRecDepth 100000 in
theorem c_X2_rankOf (l : Launch) (D : va_G) (cI cC cZ : ClassId) (a_L a_L_wants a_F a_F_table a_F_spots a_F_points a_F_walls a_F_across a_F_bareLight : Nat) (sz : Nat) (L_hung : Int32) (L_dead : Int32) (L_standing : Int32) (L_wants : Nat → Int32) (F_glow : Int32) (F_spotCount : Int32) (F_pointCount : Int32) (F_wallCount : Int32) (F_table : Nat → Int32) (F_spots : Nat → Int32) (F_points : Nat → Int32) (F_walls : Nat → Int32) (F_across : Nat → Int32) (F_bareLight : Nat → Int32) (p1 : Int32) (p2 : Int32) (rr : Int32) (hf : f_X2_rankOf L_wants F_glow F_spotCount F_pointCount F_across F_bareLight p1 p2 = some rr) : kMet l yX2_rankOf cX2_rankOf 3 (some .int) rm_X2_rankOf D (kTY cI cC cZ) [.ref a_L, .int p1, .int p2] (WD6 cI cC cZ a_L a_L_wants a_F a_F_table a_F_spots a_F_points a_F_walls a_F_across a_F_bareLight L_hung L_dead L_standing L_wants F_glow F_spotCount F_pointCount F_wallCount F_table F_spots F_points F_walls F_across F_bareLight) sz (kQI D (kTY cI cC cZ) (va_A (WD6 cI cC cZ a_L a_L_wants a_F a_F_table a_F_spots a_F_points a_F_walls a_F_across a_F_bareLight L_hung L_dead L_standing L_wants F_glow F_spotCount F_pointCount F_wallCount F_table F_spots F_points F_walls F_across F_bareLight) sz) rr (WD6 cI cC cZ a_L a_L_wants a_F a_F_table a_F_spots a_F_points a_F_walls a_F_across a_F_bareLight L_hung L_dead L_standing L_wants F_glow F_spotCount F_pointCount F_wallCount F_table F_spots F_points F_walls F_across F_bareLight)) := by
  refine kEnter (lv := [(0, .ref a_L), (1, .int p1), (2, .int p2)]) (own := RX2) (by decide) rfl (Nat.le_of_ble_eq_true rfl) rfl ?_
  intro p e s m below meth c hsz C0 hP hD hS ls hl
  generalize (va_A (WD6 cI cC cZ a_L a_L_wants a_F a_F_table a_F_spots a_F_points a_F_walls a_F_across a_F_bareLight L_hung L_dead L_standing L_wants F_glow F_spotCount F_pointCount F_wallCount F_table F_spots F_points F_walls F_across F_bareLight) sz) = A at C0 hD hS ⊢
  clear hsz hS
  obtain ⟨H, hHs⟩ : ∃ H : Heap, H = s.heap := ⟨_, rfl⟩
  have hS : va_S A s.heap H [] := by rw [hHs]; exact va_S.rf
  rw [← hHs] at hP ⊢
  obtain ⟨hx, hb, hr, hml, hown, hts, hK, hN, hA, hlocks, hF⟩ := id C0
  have h := hf
  unfold f_X2_rankOf at h
  refine lv_aload_n hx hb dX2_rankOf_0 rfl (lv_at hl 0 rfl) ?_
  refine lv_iload_n hx hb dX2_rankOf_1 rfl (lv_at hl 1 rfl) ?_
  refine lv_iload_n hx hb dX2_rankOf_2 rfl (lv_at hl 2 rfl) ?_
  obtain ⟨r2, hc1, h⟩ := oc_bind h
  refine kro_i (wc := (WD6 cI cC cZ a_L a_L_wants a_F a_F_table a_F_spots a_F_points a_F_walls a_F_across a_F_bareLight L_hung L_dead L_standing L_wants F_glow F_spotCount F_pointCount F_wallCount F_table F_spots F_points F_walls F_across F_bareLight)) C0 hP hD hS [0, 1, 2, 3, 4, 5, 6, 7, 8] rfl (kV (n := 2) (As := [.int p1, .int p2]) (rest := []) (wc := (WD6 cI cC cZ a_L a_L_wants a_F a_F_table a_F_spots a_F_points a_F_walls a_F_across a_F_bareLight L_hung L_dead L_standing L_wants F_glow F_spotCount F_pointCount F_wallCount F_table F_spots F_points F_walls F_across F_bareLight)) (C := RX2) C0 hP hD hS [0, 1, 2, 3, 4, 5, 6, 7, 8] rfl (by decide) (c_X2_servedPoints l D cI cC cZ a_L a_L_wants a_F a_F_table a_F_spots a_F_points a_F_walls a_F_across a_F_bareLight H.size L_hung L_dead L_standing L_wants F_glow F_spotCount F_pointCount F_wallCount F_table F_spots F_points F_walls F_across F_bareLight p1 p2 r2 hc1) kw_568 kw_565 kw_566 kw_567 kw_23 (by decide +kernel) (by decide) rfl rfl rfl hl.1 rfl (Nat.le_of_ble_eq_true rfl) ⟨Nat.zero_le _, Nat.zero_le _⟩ dX2_rankOf_3) (fun H locs hP hS => ?_)
  obtain ⟨r4, hc3, h⟩ := oc_bind h
  refine kro_i (wc := (WD0 cI cC cZ)) C0 hP hD hS [] rfl (kS (n := 1) (As := [.int r2]) (rest := []) (wc := (WD0 cI cC cZ)) C0 hP hD hS [] rfl (by decide) (c_J6_bitCount l D cI cC cZ  H.size  r2 r4 hc3) kw_447 kw_569 kw_446 kw_418 (by decide +kernel) (by decide) rfl hl.1 rfl (Nat.le_of_ble_eq_true rfl) ⟨Nat.zero_le _, Nat.zero_le _⟩ dX2_rankOf_6) (fun H locs hP hS => ?_)
  refine lv_sipush (v := (10000 : Int32)) hx hb dX2_rankOf_9 (by decide) ?_
  refine lv_imul hx hb dX2_rankOf_12 ?_
  refine lv_aload_n hx hb dX2_rankOf_13 rfl (lv_at hl 0 rfl) ?_
  refine va_get (D := D) (ci := 2) (v := .ref a_F) (C := RX2) (T := TX2) (N := 5) hx hb hts inlX2 hown hK hP 0 rfl rfl 0 (by decide) (hts _ kw_60) (fun _ h9 => h9) rfl dX2_rankOf_14 ?_
  refine lv_iload_n hx hb dX2_rankOf_17 rfl (lv_at hl 1 rfl) ?_
  refine lv_iload_n hx hb dX2_rankOf_18 rfl (lv_at hl 2 rfl) ?_
  obtain ⟨r6, hc5, h⟩ := oc_bind h
  refine kro_i (wc := (WD2 cI cC cZ a_F a_F_table a_F_spots a_F_points a_F_walls a_F_across a_F_bareLight F_glow F_spotCount F_pointCount F_wallCount F_table F_spots F_points F_walls F_across F_bareLight)) C0 hP hD hS [2, 3, 4, 5, 6, 7, 8] rfl (kVN (n := 2) (As := [.int p1, .int p2]) (rest := [.int (r4 * (10000 : Int32))]) (wc := (WD2 cI cC cZ a_F a_F_table a_F_spots a_F_points a_F_walls a_F_across a_F_bareLight F_glow F_spotCount F_pointCount F_wallCount F_table F_spots F_points F_walls F_across F_bareLight)) (C := RX1) C0 hP hD hS [2, 3, 4, 5, 6, 7, 8] rfl (by decide) (c_X1_sumOfAll l D cI cC cZ a_F a_F_table a_F_spots a_F_points a_F_walls a_F_across a_F_bareLight H.size F_glow F_spotCount F_pointCount F_wallCount F_table F_spots F_points F_walls F_across F_bareLight p1 p2 r6 hc5) kw_572 (ks_m44 hN) kw_570 kw_571 kw_19 (by decide +kernel) (by decide) rfl rfl rfl hl.1 rfl (Nat.le_of_ble_eq_true rfl) ⟨Nat.zero_le _, Nat.zero_le _⟩ dX2_rankOf_19) (fun H locs hP hS => ?_)
  refine lv_iadd hx hb dX2_rankOf_22 ?_
  cases h
  exact kret_i C0 hP hD hS rfl dX2_rankOf_23
abbrev rm_X2_isShaded : Room := { frames := 2, cells := 0, slots := 0, locals := 43 }
noncomputable def f_X2_isShaded (L_standing : Int32) (F_spotCount : Int32) (F_pointCount : Int32) (F_across : Nat → Int32) (p1 : Int32) (p2 : Int32) : Option (Int32) := (f_X1_wallsAcross F_spotCount F_pointCount F_across p1 p2).bind (fun r2 => if (r2 &&& L_standing) = 0 then (some (0 : Int32)) else (some (1 : Int32)))
set_option maxHeartbeats 4000000 in
set_option maxRecDepth 100000 in
theorem c_X2_isShaded (l : Launch) (D : va_G) (cI cC cZ : ClassId) (a_L a_L_wants a_F a_F_table a_F_spots a_F_points a_F_walls a_F_across a_F_bareLight : Nat) (sz : Nat) (L_hung : Int32) (L_dead : Int32) (L_standing : Int32) (L_wants : Nat → Int32) (F_glow : Int32) (F_spotCount : Int32) (F_pointCount : Int32) (F_wallCount : Int32) (F_table : Nat → Int32) (F_spots : Nat → Int32) (F_points : Nat → Int32) (F_walls : Nat → Int32) (F_across : Nat → Int32) (F_bareLight : Nat → Int32) (p1 : Int32) (p2 : Int32) (rr : Int32) (hf : f_X2_isShaded L_standing F_spotCount F_pointCount F_across p1 p2 = some rr) : kMet l yX2_isShaded cX2_isShaded 3 (some .boolean) rm_X2_isShaded D (kTY cI cC cZ) [.ref a_L, .int p1, .int p2] (WD6 cI cC cZ a_L a_L_wants a_F a_F_table a_F_spots a_F_points a_F_walls a_F_across a_F_bareLight L_hung L_dead L_standing L_wants F_glow F_spotCount F_pointCount F_wallCount F_table F_spots F_points F_walls F_across F_bareLight) sz (kQI D (kTY cI cC cZ) (va_A (WD6 cI cC cZ a_L a_L_wants a_F a_F_table a_F_spots a_F_points a_F_walls a_F_across a_F_bareLight L_hung L_dead L_standing L_wants F_glow F_spotCount F_pointCount F_wallCount F_table F_spots F_points F_walls F_across F_bareLight) sz) rr (WD6 cI cC cZ a_L a_L_wants a_F a_F_table a_F_spots a_F_points a_F_walls a_F_across a_F_bareLight L_hung L_dead L_standing L_wants F_glow F_spotCount F_pointCount F_wallCount F_table F_spots F_points F_walls F_across F_bareLight)) := by
  refine kEnter (lv := [(0, .ref a_L), (1, .int p1), (2, .int p2)]) (own := RX2) (by decide) rfl (Nat.le_of_ble_eq_true rfl) rfl ?_
  intro p e s m below meth c hsz C0 hP hD hS ls hl
  generalize (va_A (WD6 cI cC cZ a_L a_L_wants a_F a_F_table a_F_spots a_F_points a_F_walls a_F_across a_F_bareLight L_hung L_dead L_standing L_wants F_glow F_spotCount F_pointCount F_wallCount F_table F_spots F_points F_walls F_across F_bareLight) sz) = A at C0 hD hS ⊢
  clear hsz hS
  obtain ⟨H, hHs⟩ : ∃ H : Heap, H = s.heap := ⟨_, rfl⟩
  have hS : va_S A s.heap H [] := by rw [hHs]; exact va_S.rf
  rw [← hHs] at hP ⊢
  obtain ⟨hx, hb, hr, hml, hown, hts, hK, hN, hA, hlocks, hF⟩ := id C0
  have h := hf
  unfold f_X2_isShaded at h
  refine lv_aload_n hx hb dX2_isShaded_0 rfl (lv_at hl 0 rfl) ?_
  refine va_get (D := D) (ci := 2) (v := .ref a_F) (C := RX2) (T := TX2) (N := 5) hx hb hts inlX2 hown hK hP 0 rfl rfl 0 (by decide) (hts _ kw_60) (fun _ h9 => h9) rfl dX2_isShaded_1 ?_
  refine lv_iload_n hx hb dX2_isShaded_4 rfl (lv_at hl 1 rfl) ?_
  refine lv_iload_n hx hb dX2_isShaded_5 rfl (lv_at hl 2 rfl) ?_
  obtain ⟨r2, hc1, h⟩ := oc_bind h
  refine kro_i (wc := (WD2 cI cC cZ a_F a_F_table a_F_spots a_F_points a_F_walls a_F_across a_F_bareLight F_glow F_spotCount F_pointCount F_wallCount F_table F_spots F_points F_walls F_across F_bareLight)) C0 hP hD hS [2, 3, 4, 5, 6, 7, 8] rfl (kVN (n := 2) (As := [.int p1, .int p2]) (rest := []) (wc := (WD2 cI cC cZ a_F a_F_table a_F_spots a_F_points a_F_walls a_F_across a_F_bareLight F_glow F_spotCount F_pointCount F_wallCount F_table F_spots F_points F_walls F_across F_bareLight)) (C := RX1) C0 hP hD hS [2, 3, 4, 5, 6, 7, 8] rfl (by decide) (c_X1_wallsAcross l D cI cC cZ a_F a_F_table a_F_spots a_F_points a_F_walls a_F_across a_F_bareLight H.size F_glow F_spotCount F_pointCount F_wallCount F_table F_spots F_points F_walls F_across F_bareLight p1 p2 r2 hc1) kw_415 (ks_m49 hN) kw_413 kw_414 kw_19 (by decide +kernel) (by decide) rfl rfl rfl hl.1 rfl (Nat.le_of_ble_eq_true rfl) ⟨Nat.zero_le _, Nat.zero_le _⟩ dX2_isShaded_6) (fun H locs hP hS => ?_)
  refine lv_aload_n hx hb dX2_isShaded_9 rfl (lv_at hl 0 rfl) ?_
  refine va_get (D := D) (ci := 2) (v := .int L_standing) (C := RX2) (T := TX2) (N := 5) hx hb hts inlX2 hown hK hP 0 rfl rfl 4 (by decide) (hts _ kw_258) (fun _ h9 => h9) rfl dX2_isShaded_10 ?_
  refine lv_iand hx hb dX2_isShaded_13 ?_
  refine lv_if_eq (tgt := 21) hx hb dX2_isShaded_14 (by decide) (fun c3 => ?_) (fun c3 => ?_)
  · have h := oc_t c3 h
    refine lv_iconst (v := (0 : Int32)) hx hb dX2_isShaded_21 (by decide) ?_
    cases h
    exact kret_i C0 hP hD hS (by decide) dX2_isShaded_22
  · have h := oc_f c3 h
    refine lv_iconst (v := (1 : Int32)) hx hb dX2_isShaded_17 (by decide) ?_
    refine lv_goto (tgt := 22) hx hb dX2_isShaded_18 (by decide) ?_
    cases h
    exact kret_i C0 hP hD hS (by decide) dX2_isShaded_22
abbrev rm_X2_triesWant : Room := { frames := 1, cells := 0, slots := 0, locals := 22 }
noncomputable def f_X2_triesWant (L_wants : Nat → Int32) (F_pointCount : Int32) (p1 : Int32) (p2 : Int32) : Option (Int32 × (Nat → Int32)) := (f_X1_hasPoint F_pointCount p1).bind (fun r2 => if r2 = 0 then (some ((0 : Int32), L_wants)) else ((f_X2_tellWant L_wants p1 p2).bind (fun u5 => some ((1 : Int32), u5))))
set_option maxHeartbeats 4000000 in
set_option maxRecDepth 100000 in
theorem c_X2_triesWant (l : Launch) (D : va_G) (cI cC cZ : ClassId) (a_L a_L_wants a_F a_F_table a_F_spots a_F_points a_F_walls a_F_across a_F_bareLight : Nat) (sz : Nat) (L_hung : Int32) (L_dead : Int32) (L_standing : Int32) (L_wants : Nat → Int32) (F_glow : Int32) (F_spotCount : Int32) (F_pointCount : Int32) (F_wallCount : Int32) (F_table : Nat → Int32) (F_spots : Nat → Int32) (F_points : Nat → Int32) (F_walls : Nat → Int32) (F_across : Nat → Int32) (F_bareLight : Nat → Int32) (p1 : Int32) (p2 : Int32) (rr : Int32) (u_L_wants : Nat → Int32) (hf : f_X2_triesWant L_wants F_pointCount p1 p2 = some (rr, u_L_wants)) : kMet l yX2_triesWant cX2_triesWant 3 (some .boolean) rm_X2_triesWant D (kTY cI cC cZ) [.ref a_L, .int p1, .int p2] (WD6 cI cC cZ a_L a_L_wants a_F a_F_table a_F_spots a_F_points a_F_walls a_F_across a_F_bareLight L_hung L_dead L_standing L_wants F_glow F_spotCount F_pointCount F_wallCount F_table F_spots F_points F_walls F_across F_bareLight) sz (kQI D (kTY cI cC cZ) (va_A (WD6 cI cC cZ a_L a_L_wants a_F a_F_table a_F_spots a_F_points a_F_walls a_F_across a_F_bareLight L_hung L_dead L_standing L_wants F_glow F_spotCount F_pointCount F_wallCount F_table F_spots F_points F_walls F_across F_bareLight) sz) rr (WD6 cI cC cZ a_L a_L_wants a_F a_F_table a_F_spots a_F_points a_F_walls a_F_across a_F_bareLight L_hung L_dead L_standing u_L_wants F_glow F_spotCount F_pointCount F_wallCount F_table F_spots F_points F_walls F_across F_bareLight)) := by
  refine kEnter (lv := [(0, .ref a_L), (1, .int p1), (2, .int p2)]) (own := RX2) (by decide) rfl (Nat.le_of_ble_eq_true rfl) rfl ?_
  intro p e s m below meth c hsz C0 hP hD hS ls hl
  generalize (va_A (WD6 cI cC cZ a_L a_L_wants a_F a_F_table a_F_spots a_F_points a_F_walls a_F_across a_F_bareLight L_hung L_dead L_standing L_wants F_glow F_spotCount F_pointCount F_wallCount F_table F_spots F_points F_walls F_across F_bareLight) sz) = A at C0 hD hS ⊢
  clear hsz hS
  obtain ⟨H, hHs⟩ : ∃ H : Heap, H = s.heap := ⟨_, rfl⟩
  have hS : va_S A s.heap H [] := by rw [hHs]; exact va_S.rf
  rw [← hHs] at hP ⊢
  obtain ⟨hx, hb, hr, hml, hown, hts, hK, hN, hA, hlocks, hF⟩ := id C0
  have h := hf
  unfold f_X2_triesWant at h
  refine lv_aload_n hx hb dX2_triesWant_0 rfl (lv_at hl 0 rfl) ?_
  refine va_get (D := D) (ci := 2) (v := .ref a_F) (C := RX2) (T := TX2) (N := 5) hx hb hts inlX2 hown hK hP 0 rfl rfl 0 (by decide) (hts _ kw_60) (fun _ h9 => h9) rfl dX2_triesWant_1 ?_
  refine lv_iload_n hx hb dX2_triesWant_4 rfl (lv_at hl 1 rfl) ?_
  obtain ⟨r2, hc1, h⟩ := oc_bind h
  refine kro_i (wc := (WD2 cI cC cZ a_F a_F_table a_F_spots a_F_points a_F_walls a_F_across a_F_bareLight F_glow F_spotCount F_pointCount F_wallCount F_table F_spots F_points F_walls F_across F_bareLight)) C0 hP hD hS [2, 3, 4, 5, 6, 7, 8] rfl (kVN (n := 1) (As := [.int p1]) (rest := []) (wc := (WD2 cI cC cZ a_F a_F_table a_F_spots a_F_points a_F_walls a_F_across a_F_bareLight F_glow F_spotCount F_pointCount F_wallCount F_table F_spots F_points F_walls F_across F_bareLight)) (C := RX1) C0 hP hD hS [2, 3, 4, 5, 6, 7, 8] rfl (by decide) (c_X1_hasPoint l D cI cC cZ a_F a_F_table a_F_spots a_F_points a_F_walls a_F_across a_F_bareLight H.size F_glow F_spotCount F_pointCount F_wallCount F_table F_spots F_points F_walls F_across F_bareLight p1 r2 hc1) kw_261 (ks_m12 hN) kw_259 kw_260 kw_19 (by decide +kernel) (by decide) rfl rfl rfl hl.1 rfl (Nat.le_of_ble_eq_true rfl) ⟨Nat.zero_le _, Nat.zero_le _⟩ dX2_triesWant_5) (fun H locs hP hS => ?_)
  refine lv_if_ne (tgt := 13) hx hb dX2_triesWant_8 (by decide) (fun c3 => ?_) (fun c3 => ?_)
  · have h := oc_f c3 h
    refine lv_aload_n hx hb dX2_triesWant_13 rfl (lv_at hl 0 rfl) ?_
    refine lv_iload_n hx hb dX2_triesWant_14 rfl (lv_at hl 1 rfl) ?_
    refine lv_iload_n hx hb dX2_triesWant_15 rfl (lv_at hl 2 rfl) ?_
    obtain ⟨u5, hc4, h⟩ := oc_bind h
    refine kgo_v (wc := (WD6 cI cC cZ a_L a_L_wants a_F a_F_table a_F_spots a_F_points a_F_walls a_F_across a_F_bareLight L_hung L_dead L_standing L_wants F_glow F_spotCount F_pointCount F_wallCount F_table F_spots F_points F_walls F_across F_bareLight)) (wc' := (WD6 cI cC cZ a_L a_L_wants a_F a_F_table a_F_spots a_F_points a_F_walls a_F_across a_F_bareLight L_hung L_dead L_standing u5 F_glow F_spotCount F_pointCount F_wallCount F_table F_spots F_points F_walls F_across F_bareLight)) (ws' := (WD6 cI cC cZ a_L a_L_wants a_F a_F_table a_F_spots a_F_points a_F_walls a_F_across a_F_bareLight L_hung L_dead L_standing u5 F_glow F_spotCount F_pointCount F_wallCount F_table F_spots F_points F_walls F_across F_bareLight)) C0 hP hD hS [0, 1, 2, 3, 4, 5, 6, 7, 8] [] [0, 1, 2, 3, 4, 5, 6, 7, 8] [] rfl rfl (by decide) (by decide) rfl (by decide) (kV (n := 2) (As := [.int p1, .int p2]) (rest := []) (wc := (WD6 cI cC cZ a_L a_L_wants a_F a_F_table a_F_spots a_F_points a_F_walls a_F_across a_F_bareLight L_hung L_dead L_standing L_wants F_glow F_spotCount F_pointCount F_wallCount F_table F_spots F_points F_walls F_across F_bareLight)) (C := RX2) C0 hP hD hS [0, 1, 2, 3, 4, 5, 6, 7, 8] rfl (by decide) (c_X2_tellWant l D cI cC cZ a_L a_L_wants a_F a_F_table a_F_spots a_F_points a_F_walls a_F_across a_F_bareLight H.size L_hung L_dead L_standing L_wants F_glow F_spotCount F_pointCount F_wallCount F_table F_spots F_points F_walls F_across F_bareLight p1 p2 u5 hc4) kw_496 kw_651 kw_494 kw_495 kw_23 (by decide +kernel) (by decide) rfl rfl rfl hl.1 rfl (Nat.le_of_ble_eq_true rfl) ⟨Nat.zero_le _, Nat.zero_le _⟩ dX2_triesWant_16) (fun H locs hP hD hS => ?_)
    refine lv_iconst (v := (1 : Int32)) hx hb dX2_triesWant_19 (by decide) ?_
    cases h
    exact kret_i C0 hP hD hS (by decide) dX2_triesWant_20
  · have h := oc_t c3 h
    refine lv_iconst (v := (0 : Int32)) hx hb dX2_triesWant_11 (by decide) ?_
    cases h
    exact kret_i C0 hP hD hS (by decide) dX2_triesWant_12
abbrev rm_X2_triesWall : Room := { frames := 1, cells := 0, slots := 0, locals := 21 }
noncomputable def f_X2_triesWall (L_standing : Int32) (F_wallCount : Int32) (p1 : Int32) : Option (Int32 × Int32) := (f_X1_hasWall F_wallCount p1).bind (fun r2 => if r2 = 0 then (some ((0 : Int32), L_standing)) else ((f_X2_turnWall L_standing p1).bind (fun u5 => some ((1 : Int32), u5))))
set_option maxHeartbeats 4000000 in
set_option maxRecDepth 100000 in
theorem c_X2_triesWall (l : Launch) (D : va_G) (cI cC cZ : ClassId) (a_L a_L_wants a_F a_F_table a_F_spots a_F_points a_F_walls a_F_across a_F_bareLight : Nat) (sz : Nat) (L_hung : Int32) (L_dead : Int32) (L_standing : Int32) (L_wants : Nat → Int32) (F_glow : Int32) (F_spotCount : Int32) (F_pointCount : Int32) (F_wallCount : Int32) (F_table : Nat → Int32) (F_spots : Nat → Int32) (F_points : Nat → Int32) (F_walls : Nat → Int32) (F_across : Nat → Int32) (F_bareLight : Nat → Int32) (p1 : Int32) (rr : Int32) (u_L_standing : Int32) (hf : f_X2_triesWall L_standing F_wallCount p1 = some (rr, u_L_standing)) : kMet l yX2_triesWall cX2_triesWall 2 (some .boolean) rm_X2_triesWall D (kTY cI cC cZ) [.ref a_L, .int p1] (WD6 cI cC cZ a_L a_L_wants a_F a_F_table a_F_spots a_F_points a_F_walls a_F_across a_F_bareLight L_hung L_dead L_standing L_wants F_glow F_spotCount F_pointCount F_wallCount F_table F_spots F_points F_walls F_across F_bareLight) sz (kQI D (kTY cI cC cZ) (va_A (WD6 cI cC cZ a_L a_L_wants a_F a_F_table a_F_spots a_F_points a_F_walls a_F_across a_F_bareLight L_hung L_dead L_standing L_wants F_glow F_spotCount F_pointCount F_wallCount F_table F_spots F_points F_walls F_across F_bareLight) sz) rr (WD6 cI cC cZ a_L a_L_wants a_F a_F_table a_F_spots a_F_points a_F_walls a_F_across a_F_bareLight L_hung L_dead u_L_standing L_wants F_glow F_spotCount F_pointCount F_wallCount F_table F_spots F_points F_walls F_across F_bareLight)) := by
  refine kEnter (lv := [(0, .ref a_L), (1, .int p1)]) (own := RX2) (by decide) rfl (Nat.le_of_ble_eq_true rfl) rfl ?_
  intro p e s m below meth c hsz C0 hP hD hS ls hl
  generalize (va_A (WD6 cI cC cZ a_L a_L_wants a_F a_F_table a_F_spots a_F_points a_F_walls a_F_across a_F_bareLight L_hung L_dead L_standing L_wants F_glow F_spotCount F_pointCount F_wallCount F_table F_spots F_points F_walls F_across F_bareLight) sz) = A at C0 hD hS ⊢
  clear hsz hS
  obtain ⟨H, hHs⟩ : ∃ H : Heap, H = s.heap := ⟨_, rfl⟩
  have hS : va_S A s.heap H [] := by rw [hHs]; exact va_S.rf
  rw [← hHs] at hP ⊢
  obtain ⟨hx, hb, hr, hml, hown, hts, hK, hN, hA, hlocks, hF⟩ := id C0
  have h := hf
  unfold f_X2_triesWall at h
  refine lv_aload_n hx hb dX2_triesWall_0 rfl (lv_at hl 0 rfl) ?_
  refine va_get (D := D) (ci := 2) (v := .ref a_F) (C := RX2) (T := TX2) (N := 5) hx hb hts inlX2 hown hK hP 0 rfl rfl 0 (by decide) (hts _ kw_60) (fun _ h9 => h9) rfl dX2_triesWall_1 ?_
  refine lv_iload_n hx hb dX2_triesWall_4 rfl (lv_at hl 1 rfl) ?_
  obtain ⟨r2, hc1, h⟩ := oc_bind h
  refine kro_i (wc := (WD2 cI cC cZ a_F a_F_table a_F_spots a_F_points a_F_walls a_F_across a_F_bareLight F_glow F_spotCount F_pointCount F_wallCount F_table F_spots F_points F_walls F_across F_bareLight)) C0 hP hD hS [2, 3, 4, 5, 6, 7, 8] rfl (kVN (n := 1) (As := [.int p1]) (rest := []) (wc := (WD2 cI cC cZ a_F a_F_table a_F_spots a_F_points a_F_walls a_F_across a_F_bareLight F_glow F_spotCount F_pointCount F_wallCount F_table F_spots F_points F_walls F_across F_bareLight)) (C := RX1) C0 hP hD hS [2, 3, 4, 5, 6, 7, 8] rfl (by decide) (c_X1_hasWall l D cI cC cZ a_F a_F_table a_F_spots a_F_points a_F_walls a_F_across a_F_bareLight H.size F_glow F_spotCount F_pointCount F_wallCount F_table F_spots F_points F_walls F_across F_bareLight p1 r2 hc1) kw_482 (ks_m48 hN) kw_480 kw_481 kw_19 (by decide +kernel) (by decide) rfl rfl rfl hl.1 rfl (Nat.le_of_ble_eq_true rfl) ⟨Nat.zero_le _, Nat.zero_le _⟩ dX2_triesWall_5) (fun H locs hP hS => ?_)
  refine lv_if_ne (tgt := 13) hx hb dX2_triesWall_8 (by decide) (fun c3 => ?_) (fun c3 => ?_)
  · have h := oc_f c3 h
    refine lv_aload_n hx hb dX2_triesWall_13 rfl (lv_at hl 0 rfl) ?_
    refine lv_iload_n hx hb dX2_triesWall_14 rfl (lv_at hl 1 rfl) ?_
    obtain ⟨u5, hc4, h⟩ := oc_bind h
    refine kgo_v (wc := (WD6 cI cC cZ a_L a_L_wants a_F a_F_table a_F_spots a_F_points a_F_walls a_F_across a_F_bareLight L_hung L_dead L_standing L_wants F_glow F_spotCount F_pointCount F_wallCount F_table F_spots F_points F_walls F_across F_bareLight)) (wc' := (WD6 cI cC cZ a_L a_L_wants a_F a_F_table a_F_spots a_F_points a_F_walls a_F_across a_F_bareLight L_hung L_dead u5 L_wants F_glow F_spotCount F_pointCount F_wallCount F_table F_spots F_points F_walls F_across F_bareLight)) (ws' := (WD6 cI cC cZ a_L a_L_wants a_F a_F_table a_F_spots a_F_points a_F_walls a_F_across a_F_bareLight L_hung L_dead u5 L_wants F_glow F_spotCount F_pointCount F_wallCount F_table F_spots F_points F_walls F_across F_bareLight)) C0 hP hD hS [0, 1, 2, 3, 4, 5, 6, 7, 8] [] [0, 1, 2, 3, 4, 5, 6, 7, 8] [] rfl rfl (by decide) (by decide) rfl (by decide) (kV (n := 1) (As := [.int p1]) (rest := []) (wc := (WD6 cI cC cZ a_L a_L_wants a_F a_F_table a_F_spots a_F_points a_F_walls a_F_across a_F_bareLight L_hung L_dead L_standing L_wants F_glow F_spotCount F_pointCount F_wallCount F_table F_spots F_points F_walls F_across F_bareLight)) (C := RX2) C0 hP hD hS [0, 1, 2, 3, 4, 5, 6, 7, 8] rfl (by decide) (c_X2_turnWall l D cI cC cZ a_L a_L_wants a_F a_F_table a_F_spots a_F_points a_F_walls a_F_across a_F_bareLight H.size L_hung L_dead L_standing L_wants F_glow F_spotCount F_pointCount F_wallCount F_table F_spots F_points F_walls F_across F_bareLight p1 u5 hc4) kw_485 kw_645 kw_483 kw_484 kw_23 (by decide +kernel) (by decide) rfl rfl rfl hl.1 rfl (Nat.le_of_ble_eq_true rfl) ⟨Nat.zero_le _, Nat.zero_le _⟩ dX2_triesWall_15) (fun H locs hP hD hS => ?_)
    refine lv_iconst (v := (1 : Int32)) hx hb dX2_triesWall_18 (by decide) ?_
    cases h
    exact kret_i C0 hP hD hS (by decide) dX2_triesWall_19
  · have h := oc_t c3 h
    refine lv_iconst (v := (0 : Int32)) hx hb dX2_triesWall_11 (by decide) ?_
    cases h
    exact kret_i C0 hP hD hS (by decide) dX2_triesWall_12
abbrev rm_X2_triesDead : Room := { frames := 2, cells := 0, slots := 0, locals := 44 }
noncomputable def f_X2_triesDead (L_hung : Int32) (L_dead : Int32) (F_spotCount : Int32) (p1 : Int32) : Option (Int32 × Int32 × Int32) := (f_X1_hasSpot F_spotCount p1).bind (fun r2 => if r2 = 0 then (some ((0 : Int32), L_hung, L_dead)) else ((f_X2_lampAt L_hung L_dead p1).bind (fun r5 => if r5 = 0 then (some ((0 : Int32), L_hung, L_dead)) else ((f_X2_turnDead L_hung L_dead p1).bind (fun z => un2 z (fun u8 u9 => some ((1 : Int32), u8, u9)))))))
set_option maxHeartbeats 4000000 in
set_option maxRecDepth 100000 in
theorem c_X2_triesDead (l : Launch) (D : va_G) (cI cC cZ : ClassId) (a_L a_L_wants a_F a_F_table a_F_spots a_F_points a_F_walls a_F_across a_F_bareLight : Nat) (sz : Nat) (L_hung : Int32) (L_dead : Int32) (L_standing : Int32) (L_wants : Nat → Int32) (F_glow : Int32) (F_spotCount : Int32) (F_pointCount : Int32) (F_wallCount : Int32) (F_table : Nat → Int32) (F_spots : Nat → Int32) (F_points : Nat → Int32) (F_walls : Nat → Int32) (F_across : Nat → Int32) (F_bareLight : Nat → Int32) (p1 : Int32) (rr : Int32) (u_L_hung : Int32) (u_L_dead : Int32) (hf : f_X2_triesDead L_hung L_dead F_spotCount p1 = some (rr, u_L_hung, u_L_dead)) : kMet l yX2_triesDead cX2_triesDead 2 (some .boolean) rm_X2_triesDead D (kTY cI cC cZ) [.ref a_L, .int p1] (WD6 cI cC cZ a_L a_L_wants a_F a_F_table a_F_spots a_F_points a_F_walls a_F_across a_F_bareLight L_hung L_dead L_standing L_wants F_glow F_spotCount F_pointCount F_wallCount F_table F_spots F_points F_walls F_across F_bareLight) sz (kQI D (kTY cI cC cZ) (va_A (WD6 cI cC cZ a_L a_L_wants a_F a_F_table a_F_spots a_F_points a_F_walls a_F_across a_F_bareLight L_hung L_dead L_standing L_wants F_glow F_spotCount F_pointCount F_wallCount F_table F_spots F_points F_walls F_across F_bareLight) sz) rr (WD6 cI cC cZ a_L a_L_wants a_F a_F_table a_F_spots a_F_points a_F_walls a_F_across a_F_bareLight u_L_hung u_L_dead L_standing L_wants F_glow F_spotCount F_pointCount F_wallCount F_table F_spots F_points F_walls F_across F_bareLight)) := by
  refine kEnter (lv := [(0, .ref a_L), (1, .int p1)]) (own := RX2) (by decide) rfl (Nat.le_of_ble_eq_true rfl) rfl ?_
  intro p e s m below meth c hsz C0 hP hD hS ls hl
  generalize (va_A (WD6 cI cC cZ a_L a_L_wants a_F a_F_table a_F_spots a_F_points a_F_walls a_F_across a_F_bareLight L_hung L_dead L_standing L_wants F_glow F_spotCount F_pointCount F_wallCount F_table F_spots F_points F_walls F_across F_bareLight) sz) = A at C0 hD hS ⊢
  clear hsz hS
  obtain ⟨H, hHs⟩ : ∃ H : Heap, H = s.heap := ⟨_, rfl⟩
  have hS : va_S A s.heap H [] := by rw [hHs]; exact va_S.rf
  rw [← hHs] at hP ⊢
  obtain ⟨hx, hb, hr, hml, hown, hts, hK, hN, hA, hlocks, hF⟩ := id C0
  have h := hf
  unfold f_X2_triesDead at h
  refine lv_aload_n hx hb dX2_triesDead_0 rfl (lv_at hl 0 rfl) ?_
  refine va_get (D := D) (ci := 2) (v := .ref a_F) (C := RX2) (T := TX2) (N := 5) hx hb hts inlX2 hown hK hP 0 rfl rfl 0 (by decide) (hts _ kw_60) (fun _ h9 => h9) rfl dX2_triesDead_1 ?_
  refine lv_iload_n hx hb dX2_triesDead_4 rfl (lv_at hl 1 rfl) ?_
  obtain ⟨r2, hc1, h⟩ := oc_bind h
  refine kro_i (wc := (WD2 cI cC cZ a_F a_F_table a_F_spots a_F_points a_F_walls a_F_across a_F_bareLight F_glow F_spotCount F_pointCount F_wallCount F_table F_spots F_points F_walls F_across F_bareLight)) C0 hP hD hS [2, 3, 4, 5, 6, 7, 8] rfl (kVN (n := 1) (As := [.int p1]) (rest := []) (wc := (WD2 cI cC cZ a_F a_F_table a_F_spots a_F_points a_F_walls a_F_across a_F_bareLight F_glow F_spotCount F_pointCount F_wallCount F_table F_spots F_points F_walls F_across F_bareLight)) (C := RX1) C0 hP hD hS [2, 3, 4, 5, 6, 7, 8] rfl (by decide) (c_X1_hasSpot l D cI cC cZ a_F a_F_table a_F_spots a_F_points a_F_walls a_F_across a_F_bareLight H.size F_glow F_spotCount F_pointCount F_wallCount F_table F_spots F_points F_walls F_across F_bareLight p1 r2 hc1) kw_287 (ks_m47 hN) kw_285 kw_286 kw_19 (by decide +kernel) (by decide) rfl rfl rfl hl.1 rfl (Nat.le_of_ble_eq_true rfl) ⟨Nat.zero_le _, Nat.zero_le _⟩ dX2_triesDead_5) (fun H locs hP hS => ?_)
  refine lv_if_eq (tgt := 19) hx hb dX2_triesDead_8 (by decide) (fun c3 => ?_) (fun c3 => ?_)
  · have h := oc_t c3 h
    refine lv_iconst (v := (0 : Int32)) hx hb dX2_triesDead_19 (by decide) ?_
    cases h
    exact kret_i C0 hP hD hS (by decide) dX2_triesDead_20
  · have h := oc_f c3 h
    refine lv_aload_n hx hb dX2_triesDead_11 rfl (lv_at hl 0 rfl) ?_
    refine lv_iload_n hx hb dX2_triesDead_12 rfl (lv_at hl 1 rfl) ?_
    obtain ⟨r5, hc4, h⟩ := oc_bind h
    refine kro_i (wc := (WD6 cI cC cZ a_L a_L_wants a_F a_F_table a_F_spots a_F_points a_F_walls a_F_across a_F_bareLight L_hung L_dead L_standing L_wants F_glow F_spotCount F_pointCount F_wallCount F_table F_spots F_points F_walls F_across F_bareLight)) C0 hP hD hS [0, 1, 2, 3, 4, 5, 6, 7, 8] rfl (kV (n := 1) (As := [.int p1]) (rest := []) (wc := (WD6 cI cC cZ a_L a_L_wants a_F a_F_table a_F_spots a_F_points a_F_walls a_F_across a_F_bareLight L_hung L_dead L_standing L_wants F_glow F_spotCount F_pointCount F_wallCount F_table F_spots F_points F_walls F_across F_bareLight)) (C := RX2) C0 hP hD hS [0, 1, 2, 3, 4, 5, 6, 7, 8] rfl (by decide) (c_X2_lampAt l D cI cC cZ a_L a_L_wants a_F a_F_table a_F_spots a_F_points a_F_walls a_F_across a_F_bareLight H.size L_hung L_dead L_standing L_wants F_glow F_spotCount F_pointCount F_wallCount F_table F_spots F_points F_walls F_across F_bareLight p1 r5 hc4) kw_290 kw_440 kw_288 kw_289 kw_23 (by decide +kernel) (by decide) rfl rfl rfl hl.1 rfl (Nat.le_of_ble_eq_true rfl) ⟨Nat.zero_le _, Nat.zero_le _⟩ dX2_triesDead_13) (fun H locs hP hS => ?_)
    refine lv_if_ne (tgt := 21) hx hb dX2_triesDead_16 (by decide) (fun c6 => ?_) (fun c6 => ?_)
    · have h := oc_f c6 h
      refine lv_aload_n hx hb dX2_triesDead_21 rfl (lv_at hl 0 rfl) ?_
      refine lv_iload_n hx hb dX2_triesDead_22 rfl (lv_at hl 1 rfl) ?_
      obtain ⟨u8, u9, hc7, h⟩ := oc_b2 h
      refine kgo_v (wc := (WD6 cI cC cZ a_L a_L_wants a_F a_F_table a_F_spots a_F_points a_F_walls a_F_across a_F_bareLight L_hung L_dead L_standing L_wants F_glow F_spotCount F_pointCount F_wallCount F_table F_spots F_points F_walls F_across F_bareLight)) (wc' := (WD6 cI cC cZ a_L a_L_wants a_F a_F_table a_F_spots a_F_points a_F_walls a_F_across a_F_bareLight u8 u9 L_standing L_wants F_glow F_spotCount F_pointCount F_wallCount F_table F_spots F_points F_walls F_across F_bareLight)) (ws' := (WD6 cI cC cZ a_L a_L_wants a_F a_F_table a_F_spots a_F_points a_F_walls a_F_across a_F_bareLight u8 u9 L_standing L_wants F_glow F_spotCount F_pointCount F_wallCount F_table F_spots F_points F_walls F_across F_bareLight)) C0 hP hD hS [0, 1, 2, 3, 4, 5, 6, 7, 8] [] [0, 1, 2, 3, 4, 5, 6, 7, 8] [] rfl rfl (by decide) (by decide) rfl (by decide) (kV (n := 1) (As := [.int p1]) (rest := []) (wc := (WD6 cI cC cZ a_L a_L_wants a_F a_F_table a_F_spots a_F_points a_F_walls a_F_across a_F_bareLight L_hung L_dead L_standing L_wants F_glow F_spotCount F_pointCount F_wallCount F_table F_spots F_points F_walls F_across F_bareLight)) (C := RX2) C0 hP hD hS [0, 1, 2, 3, 4, 5, 6, 7, 8] rfl (by decide) (c_X2_turnDead l D cI cC cZ a_L a_L_wants a_F a_F_table a_F_spots a_F_points a_F_walls a_F_across a_F_bareLight H.size L_hung L_dead L_standing L_wants F_glow F_spotCount F_pointCount F_wallCount F_table F_spots F_points F_walls F_across F_bareLight p1 u8 u9 hc7) kw_471 kw_640 kw_469 kw_470 kw_23 (by decide +kernel) (by decide) rfl rfl rfl hl.1 rfl (Nat.le_of_ble_eq_true rfl) ⟨Nat.zero_le _, Nat.zero_le _⟩ dX2_triesDead_23) (fun H locs hP hD hS => ?_)
      refine lv_iconst (v := (1 : Int32)) hx hb dX2_triesDead_26 (by decide) ?_
      cases h
      exact kret_i C0 hP hD hS (by decide) dX2_triesDead_27
    · have h := oc_t c6 h
      refine lv_iconst (v := (0 : Int32)) hx hb dX2_triesDead_19 (by decide) ?_
      cases h
      exact kret_i C0 hP hD hS (by decide) dX2_triesDead_20
abbrev rm_X2_triesLamp : Room := { frames := 2, cells := 0, slots := 0, locals := 44 }
noncomputable def f_X2_triesLamp (L_hung : Int32) (L_dead : Int32) (F_spotCount : Int32) (p1 : Int32) : Option (Int32 × Int32 × Int32) := (f_X1_hasSpot F_spotCount p1).bind (fun r2 => if r2 = 0 then (some ((0 : Int32), L_hung, L_dead)) else ((f_X2_turnLamp L_hung L_dead p1).bind (fun z => un2 z (fun u5 u6 => some ((1 : Int32), u5, u6)))))
set_option maxHeartbeats 4000000 in
set_option maxRecDepth 100000 in
theorem c_X2_triesLamp (l : Launch) (D : va_G) (cI cC cZ : ClassId) (a_L a_L_wants a_F a_F_table a_F_spots a_F_points a_F_walls a_F_across a_F_bareLight : Nat) (sz : Nat) (L_hung : Int32) (L_dead : Int32) (L_standing : Int32) (L_wants : Nat → Int32) (F_glow : Int32) (F_spotCount : Int32) (F_pointCount : Int32) (F_wallCount : Int32) (F_table : Nat → Int32) (F_spots : Nat → Int32) (F_points : Nat → Int32) (F_walls : Nat → Int32) (F_across : Nat → Int32) (F_bareLight : Nat → Int32) (p1 : Int32) (rr : Int32) (u_L_hung : Int32) (u_L_dead : Int32) (hf : f_X2_triesLamp L_hung L_dead F_spotCount p1 = some (rr, u_L_hung, u_L_dead)) : kMet l yX2_triesLamp cX2_triesLamp 2 (some .boolean) rm_X2_triesLamp D (kTY cI cC cZ) [.ref a_L, .int p1] (WD6 cI cC cZ a_L a_L_wants a_F a_F_table a_F_spots a_F_points a_F_walls a_F_across a_F_bareLight L_hung L_dead L_standing L_wants F_glow F_spotCount F_pointCount F_wallCount F_table F_spots F_points F_walls F_across F_bareLight) sz (kQI D (kTY cI cC cZ) (va_A (WD6 cI cC cZ a_L a_L_wants a_F a_F_table a_F_spots a_F_points a_F_walls a_F_across a_F_bareLight L_hung L_dead L_standing L_wants F_glow F_spotCount F_pointCount F_wallCount F_table F_spots F_points F_walls F_across F_bareLight) sz) rr (WD6 cI cC cZ a_L a_L_wants a_F a_F_table a_F_spots a_F_points a_F_walls a_F_across a_F_bareLight u_L_hung u_L_dead L_standing L_wants F_glow F_spotCount F_pointCount F_wallCount F_table F_spots F_points F_walls F_across F_bareLight)) := by
  refine kEnter (lv := [(0, .ref a_L), (1, .int p1)]) (own := RX2) (by decide) rfl (Nat.le_of_ble_eq_true rfl) rfl ?_
  intro p e s m below meth c hsz C0 hP hD hS ls hl
  generalize (va_A (WD6 cI cC cZ a_L a_L_wants a_F a_F_table a_F_spots a_F_points a_F_walls a_F_across a_F_bareLight L_hung L_dead L_standing L_wants F_glow F_spotCount F_pointCount F_wallCount F_table F_spots F_points F_walls F_across F_bareLight) sz) = A at C0 hD hS ⊢
  clear hsz hS
  obtain ⟨H, hHs⟩ : ∃ H : Heap, H = s.heap := ⟨_, rfl⟩
  have hS : va_S A s.heap H [] := by rw [hHs]; exact va_S.rf
  rw [← hHs] at hP ⊢
  obtain ⟨hx, hb, hr, hml, hown, hts, hK, hN, hA, hlocks, hF⟩ := id C0
  have h := hf
  unfold f_X2_triesLamp at h
  refine lv_aload_n hx hb dX2_triesLamp_0 rfl (lv_at hl 0 rfl) ?_
  refine va_get (D := D) (ci := 2) (v := .ref a_F) (C := RX2) (T := TX2) (N := 5) hx hb hts inlX2 hown hK hP 0 rfl rfl 0 (by decide) (hts _ kw_60) (fun _ h9 => h9) rfl dX2_triesLamp_1 ?_
  refine lv_iload_n hx hb dX2_triesLamp_4 rfl (lv_at hl 1 rfl) ?_
  obtain ⟨r2, hc1, h⟩ := oc_bind h
  refine kro_i (wc := (WD2 cI cC cZ a_F a_F_table a_F_spots a_F_points a_F_walls a_F_across a_F_bareLight F_glow F_spotCount F_pointCount F_wallCount F_table F_spots F_points F_walls F_across F_bareLight)) C0 hP hD hS [2, 3, 4, 5, 6, 7, 8] rfl (kVN (n := 1) (As := [.int p1]) (rest := []) (wc := (WD2 cI cC cZ a_F a_F_table a_F_spots a_F_points a_F_walls a_F_across a_F_bareLight F_glow F_spotCount F_pointCount F_wallCount F_table F_spots F_points F_walls F_across F_bareLight)) (C := RX1) C0 hP hD hS [2, 3, 4, 5, 6, 7, 8] rfl (by decide) (c_X1_hasSpot l D cI cC cZ a_F a_F_table a_F_spots a_F_points a_F_walls a_F_across a_F_bareLight H.size F_glow F_spotCount F_pointCount F_wallCount F_table F_spots F_points F_walls F_across F_bareLight p1 r2 hc1) kw_287 (ks_m47 hN) kw_285 kw_286 kw_19 (by decide +kernel) (by decide) rfl rfl rfl hl.1 rfl (Nat.le_of_ble_eq_true rfl) ⟨Nat.zero_le _, Nat.zero_le _⟩ dX2_triesLamp_5) (fun H locs hP hS => ?_)
  refine lv_if_ne (tgt := 13) hx hb dX2_triesLamp_8 (by decide) (fun c3 => ?_) (fun c3 => ?_)
  · have h := oc_f c3 h
    refine lv_aload_n hx hb dX2_triesLamp_13 rfl (lv_at hl 0 rfl) ?_
    refine lv_iload_n hx hb dX2_triesLamp_14 rfl (lv_at hl 1 rfl) ?_
    obtain ⟨u5, u6, hc4, h⟩ := oc_b2 h
    refine kgo_v (wc := (WD6 cI cC cZ a_L a_L_wants a_F a_F_table a_F_spots a_F_points a_F_walls a_F_across a_F_bareLight L_hung L_dead L_standing L_wants F_glow F_spotCount F_pointCount F_wallCount F_table F_spots F_points F_walls F_across F_bareLight)) (wc' := (WD6 cI cC cZ a_L a_L_wants a_F a_F_table a_F_spots a_F_points a_F_walls a_F_across a_F_bareLight u5 u6 L_standing L_wants F_glow F_spotCount F_pointCount F_wallCount F_table F_spots F_points F_walls F_across F_bareLight)) (ws' := (WD6 cI cC cZ a_L a_L_wants a_F a_F_table a_F_spots a_F_points a_F_walls a_F_across a_F_bareLight u5 u6 L_standing L_wants F_glow F_spotCount F_pointCount F_wallCount F_table F_spots F_points F_walls F_across F_bareLight)) C0 hP hD hS [0, 1, 2, 3, 4, 5, 6, 7, 8] [] [0, 1, 2, 3, 4, 5, 6, 7, 8] [] rfl rfl (by decide) (by decide) rfl (by decide) (kV (n := 1) (As := [.int p1]) (rest := []) (wc := (WD6 cI cC cZ a_L a_L_wants a_F a_F_table a_F_spots a_F_points a_F_walls a_F_across a_F_bareLight L_hung L_dead L_standing L_wants F_glow F_spotCount F_pointCount F_wallCount F_table F_spots F_points F_walls F_across F_bareLight)) (C := RX2) C0 hP hD hS [0, 1, 2, 3, 4, 5, 6, 7, 8] rfl (by decide) (c_X2_turnLamp l D cI cC cZ a_L a_L_wants a_F a_F_table a_F_spots a_F_points a_F_walls a_F_across a_F_bareLight H.size L_hung L_dead L_standing L_wants F_glow F_spotCount F_pointCount F_wallCount F_table F_spots F_points F_walls F_across F_bareLight p1 u5 u6 hc4) kw_439 kw_635 kw_437 kw_438 kw_23 (by decide +kernel) (by decide) rfl rfl rfl hl.1 rfl (Nat.le_of_ble_eq_true rfl) ⟨Nat.zero_le _, Nat.zero_le _⟩ dX2_triesLamp_15) (fun H locs hP hD hS => ?_)
    refine lv_iconst (v := (1 : Int32)) hx hb dX2_triesLamp_18 (by decide) ?_
    cases h
    exact kret_i C0 hP hD hS (by decide) dX2_triesLamp_19
  · have h := oc_t c3 h
    refine lv_iconst (v := (0 : Int32)) hx hb dX2_triesLamp_11 (by decide) ?_
    cases h
    exact kret_i C0 hP hD hS (by decide) dX2_triesLamp_12
abbrev rm_X2_goesWell : Room := { frames := 5, cells := 0, slots := 0, locals := 112 }
noncomputable def bk_X2_goesWell_272  (L_hung : Int32) (L_dead : Int32) (L_standing : Int32) (L_wants : Nat → Int32) (s0 : Int32) (s1 : Int32) : Option (Int32 × Int32 × Int32 × Int32 × (Nat → Int32)) := if s1 = s0 then (some ((1 : Int32), L_hung, L_dead, L_standing, L_wants)) else (some ((0 : Int32), L_hung, L_dead, L_standing, L_wants))
set_option maxHeartbeats 4000000 in
set_option maxRecDepth 100000 in
theorem wk_X2_goesWell_272 {p : Program} {l : Launch} {e : Env} {s : State} {m : MethodId} {args : Array Value} {below : List Frame} {meth : Method} {c : Code} {D : va_G} {cI cC cZ : ClassId} {A : Nat → Prop} {a_L a_L_wants a_F a_F_table a_F_spots a_F_points a_F_walls a_F_across a_F_bareLight : Nat} {L_hung : Int32} {L_dead : Int32} {L_standing : Int32} {L_wants : Nat → Int32} {F_glow : Int32} {F_spotCount : Int32} {F_pointCount : Int32} {F_wallCount : Int32} {F_table : Nat → Int32} {F_spots : Nat → Int32} {F_points : Nat → Int32} {F_walls : Nat → Int32} {F_across : Nat → Int32} {F_bareLight : Nat → Int32} {s0 : Int32} {s1 : Int32}  {rr : Int32} {u_L_hung : Int32} {u_L_dead : Int32} {u_L_standing : Int32} {u_L_wants : Nat → Int32} (C0 : kC p s m args meth c D (kTY cI cC cZ) cX2_goesWell (some .boolean) 5 RX2 A)  (h : bk_X2_goesWell_272  L_hung L_dead L_standing L_wants s0 s1 = some (rr, u_L_hung, u_L_dead, u_L_standing, u_L_wants)) {H : Heap} {locs : List Loc} (hP : va_P D vwCl (WD6 cI cC cZ a_L a_L_wants a_F a_F_table a_F_spots a_F_points a_F_walls a_F_across a_F_bareLight L_hung L_dead L_standing L_wants F_glow F_spotCount F_pointCount F_wallCount F_table F_spots F_points F_walls F_across F_bareLight) H) (hD : va_D A (WD6 cI cC cZ a_L a_L_wants a_F a_F_table a_F_spots a_F_points a_F_walls a_F_across a_F_bareLight L_hung L_dead L_standing L_wants F_glow F_spotCount F_pointCount F_wallCount F_table F_spots F_points F_walls F_across F_bareLight)) (hS : va_S A s.heap H locs) {ls : Array Slot} (hl : lv_has ls 5 []) : W p l e rm_X2_goesWell s m args below meth c H locs 0 0 (MQ below (kQI D (kTY cI cC cZ) A rr (WD6 cI cC cZ a_L a_L_wants a_F a_F_table a_F_spots a_F_points a_F_walls a_F_across a_F_bareLight u_L_hung u_L_dead u_L_standing u_L_wants F_glow F_spotCount F_pointCount F_wallCount F_table F_spots F_points F_walls F_across F_bareLight)) args s 0 0 A) (F0 m 272 ls [.int s0, .int s1]) := by
  obtain ⟨hx, hb, hr, hml, hown, hts, hK, hN, hA, hlocks, hF⟩ := id C0
  unfold bk_X2_goesWell_272 at h
  refine lv_icmp_ne (tgt := 279) hx hb dX2_goesWell_272 (by decide) (fun c1 => ?_) (fun c1 => ?_)
  · have h := oc_f c1 h
    refine lv_iconst (v := (0 : Int32)) hx hb dX2_goesWell_279 (by decide) ?_
    cases h
    exact kret_i C0 hP hD hS (by decide) dX2_goesWell_280
  · have h := oc_t c1 h
    refine lv_iconst (v := (1 : Int32)) hx hb dX2_goesWell_275 (by decide) ?_
    refine lv_goto (tgt := 280) hx hb dX2_goesWell_276 (by decide) ?_
    cases h
    exact kret_i C0 hP hD hS (by decide) dX2_goesWell_280
noncomputable def bk_X2_goesWell_205  (L_hung : Int32) (L_dead : Int32) (L_standing : Int32) (L_wants : Nat → Int32) (s0 : Int32) (s1 : Int32) : Option (Int32 × Int32 × Int32 × Int32 × (Nat → Int32)) := if s1 = s0 then (some ((1 : Int32), L_hung, L_dead, L_standing, L_wants)) else (some ((0 : Int32), L_hung, L_dead, L_standing, L_wants))
set_option maxHeartbeats 4000000 in
set_option maxRecDepth 100000 in
theorem wk_X2_goesWell_205 {p : Program} {l : Launch} {e : Env} {s : State} {m : MethodId} {args : Array Value} {below : List Frame} {meth : Method} {c : Code} {D : va_G} {cI cC cZ : ClassId} {A : Nat → Prop} {a_L a_L_wants a_F a_F_table a_F_spots a_F_points a_F_walls a_F_across a_F_bareLight : Nat} {L_hung : Int32} {L_dead : Int32} {L_standing : Int32} {L_wants : Nat → Int32} {F_glow : Int32} {F_spotCount : Int32} {F_pointCount : Int32} {F_wallCount : Int32} {F_table : Nat → Int32} {F_spots : Nat → Int32} {F_points : Nat → Int32} {F_walls : Nat → Int32} {F_across : Nat → Int32} {F_bareLight : Nat → Int32} {s0 : Int32} {s1 : Int32}  {rr : Int32} {u_L_hung : Int32} {u_L_dead : Int32} {u_L_standing : Int32} {u_L_wants : Nat → Int32} (C0 : kC p s m args meth c D (kTY cI cC cZ) cX2_goesWell (some .boolean) 5 RX2 A)  (h : bk_X2_goesWell_205  L_hung L_dead L_standing L_wants s0 s1 = some (rr, u_L_hung, u_L_dead, u_L_standing, u_L_wants)) {H : Heap} {locs : List Loc} (hP : va_P D vwCl (WD6 cI cC cZ a_L a_L_wants a_F a_F_table a_F_spots a_F_points a_F_walls a_F_across a_F_bareLight L_hung L_dead L_standing L_wants F_glow F_spotCount F_pointCount F_wallCount F_table F_spots F_points F_walls F_across F_bareLight) H) (hD : va_D A (WD6 cI cC cZ a_L a_L_wants a_F a_F_table a_F_spots a_F_points a_F_walls a_F_across a_F_bareLight L_hung L_dead L_standing L_wants F_glow F_spotCount F_pointCount F_wallCount F_table F_spots F_points F_walls F_across F_bareLight)) (hS : va_S A s.heap H locs) {ls : Array Slot} (hl : lv_has ls 5 []) : W p l e rm_X2_goesWell s m args below meth c H locs 0 0 (MQ below (kQI D (kTY cI cC cZ) A rr (WD6 cI cC cZ a_L a_L_wants a_F a_F_table a_F_spots a_F_points a_F_walls a_F_across a_F_bareLight u_L_hung u_L_dead u_L_standing u_L_wants F_glow F_spotCount F_pointCount F_wallCount F_table F_spots F_points F_walls F_across F_bareLight)) args s 0 0 A) (F0 m 205 ls [.int s0, .int s1]) := by
  obtain ⟨hx, hb, hr, hml, hown, hts, hK, hN, hA, hlocks, hF⟩ := id C0
  unfold bk_X2_goesWell_205 at h
  refine lv_icmp_ne (tgt := 212) hx hb dX2_goesWell_205 (by decide) (fun c1 => ?_) (fun c1 => ?_)
  · have h := oc_f c1 h
    refine lv_iconst (v := (0 : Int32)) hx hb dX2_goesWell_212 (by decide) ?_
    cases h
    exact kret_i C0 hP hD hS (by decide) dX2_goesWell_213
  · have h := oc_t c1 h
    refine lv_iconst (v := (1 : Int32)) hx hb dX2_goesWell_208 (by decide) ?_
    refine lv_goto (tgt := 213) hx hb dX2_goesWell_209 (by decide) ?_
    cases h
    exact kret_i C0 hP hD hS (by decide) dX2_goesWell_213
noncomputable def f_X2_goesWell (L_hung : Int32) (L_dead : Int32) (L_standing : Int32) (L_wants : Nat → Int32) (F_glow : Int32) (F_spotCount : Int32) (F_pointCount : Int32) (F_wallCount : Int32) (F_across : Nat → Int32) (F_bareLight : Nat → Int32) (p1 : Int32) : Option (Int32 × Int32 × Int32 × Int32 × (Nat → Int32)) := nm_ ((p1 / (100 : Int32)) - (p1 / (100 : Int32)) / (10 : Int32) * (10 : Int32)) (fun t1 => nm_ ((p1 / (10 : Int32)) - (p1 / (10 : Int32)) / (10 : Int32) * (10 : Int32)) (fun t2 => nm_ (p1 - p1 / (10 : Int32) * (10 : Int32)) (fun t3 => if (p1 / (1000 : Int32)) = (1 : Int32) then (if t2 = 0 then (if t3 = 0 then ((f_X2_triesLamp L_hung L_dead F_spotCount t1).bind (fun z => un3 z (fun r8 u9 u10 => if r8 = 0 then (some ((0 : Int32), u9, u10, L_standing, L_wants)) else (some ((1 : Int32), u9, u10, L_standing, L_wants))))) else (some ((0 : Int32), L_hung, L_dead, L_standing, L_wants))) else (some ((0 : Int32), L_hung, L_dead, L_standing, L_wants))) else (if (p1 / (1000 : Int32)) = (2 : Int32) then (if t2 = 0 then (if t3 = 0 then ((f_X2_triesDead L_hung L_dead F_spotCount t1).bind (fun z => un3 z (fun r16 u17 u18 => if r16 = 0 then (some ((0 : Int32), u17, u18, L_standing, L_wants)) else (some ((1 : Int32), u17, u18, L_standing, L_wants))))) else (some ((0 : Int32), L_hung, L_dead, L_standing, L_wants))) else (some ((0 : Int32), L_hung, L_dead, L_standing, L_wants))) else (if (p1 / (1000 : Int32)) = (3 : Int32) then (if t2 = 0 then (if t3 = 0 then ((f_X2_triesWall L_standing F_wallCount t1).bind (fun z => un2 z (fun r24 u25 => if r24 = 0 then (some ((0 : Int32), L_hung, L_dead, u25, L_wants)) else (some ((1 : Int32), L_hung, L_dead, u25, L_wants))))) else (some ((0 : Int32), L_hung, L_dead, L_standing, L_wants))) else (some ((0 : Int32), L_hung, L_dead, L_standing, L_wants))) else (if (p1 / (1000 : Int32)) = (4 : Int32) then ((f_X1_hasPoint F_pointCount t1).bind (fun r29 => if r29 = 0 then (some ((0 : Int32), L_hung, L_dead, L_standing, L_wants)) else ((f_X2_sumOf L_hung L_dead L_standing F_glow F_spotCount F_pointCount F_across F_bareLight t1).bind (fun r32 => if r32 < (((10 : Int32) * t2) + t3) then (some ((0 : Int32), L_hung, L_dead, L_standing, L_wants)) else (some ((1 : Int32), L_hung, L_dead, L_standing, L_wants)))))) else (if (p1 / (1000 : Int32)) = (5 : Int32) then ((f_X1_hasPoint F_pointCount t1).bind (fun r36 => if r36 = 0 then (some ((0 : Int32), L_hung, L_dead, L_standing, L_wants)) else (if (1 : Int32) < t2 then (some ((0 : Int32), L_hung, L_dead, L_standing, L_wants)) else (if t3 = 0 then ((f_X2_isServed L_hung L_dead L_standing L_wants F_glow F_spotCount F_pointCount F_across F_bareLight t1).bind (fun r41 => if t2 = (1 : Int32) then (bk_X2_goesWell_205  L_hung L_dead L_standing L_wants (1 : Int32) r41) else (bk_X2_goesWell_205  L_hung L_dead L_standing L_wants (0 : Int32) r41))) else (some ((0 : Int32), L_hung, L_dead, L_standing, L_wants)))))) else (if (p1 / (1000 : Int32)) = (6 : Int32) then ((f_X2_triesWant L_wants F_pointCount t1 (((10 : Int32) * t2) + t3)).bind (fun z => un2 z (fun r45 u46 => if r45 &&& 1 = r45 then (some (r45, L_hung, L_dead, L_standing, u46)) else none))) else (if (p1 / (1000 : Int32)) = (7 : Int32) then ((f_X1_hasSpot F_spotCount t1).bind (fun r50 => if r50 = 0 then (some ((0 : Int32), L_hung, L_dead, L_standing, L_wants)) else ((f_X1_hasPoint F_pointCount t2).bind (fun r53 => if r53 = 0 then (some ((0 : Int32), L_hung, L_dead, L_standing, L_wants)) else (if (1 : Int32) < t3 then (some ((0 : Int32), L_hung, L_dead, L_standing, L_wants)) else ((f_X2_isShaded L_standing F_spotCount F_pointCount F_across t1 t2).bind (fun r57 => if t3 = (1 : Int32) then (bk_X2_goesWell_272  L_hung L_dead L_standing L_wants (1 : Int32) r57) else (bk_X2_goesWell_272  L_hung L_dead L_standing L_wants (0 : Int32) r57)))))))) else (some ((0 : Int32), L_hung, L_dead, L_standing, L_wants)))))))))))
set_option maxHeartbeats 4000000 in
set_option maxRecDepth 100000 in
theorem c_X2_goesWell (l : Launch) (D : va_G) (cI cC cZ : ClassId) (a_L a_L_wants a_F a_F_table a_F_spots a_F_points a_F_walls a_F_across a_F_bareLight : Nat) (sz : Nat) (L_hung : Int32) (L_dead : Int32) (L_standing : Int32) (L_wants : Nat → Int32) (F_glow : Int32) (F_spotCount : Int32) (F_pointCount : Int32) (F_wallCount : Int32) (F_table : Nat → Int32) (F_spots : Nat → Int32) (F_points : Nat → Int32) (F_walls : Nat → Int32) (F_across : Nat → Int32) (F_bareLight : Nat → Int32) (p1 : Int32) (rr : Int32) (u_L_hung : Int32) (u_L_dead : Int32) (u_L_standing : Int32) (u_L_wants : Nat → Int32) (hf : f_X2_goesWell L_hung L_dead L_standing L_wants F_glow F_spotCount F_pointCount F_wallCount F_across F_bareLight p1 = some (rr, u_L_hung, u_L_dead, u_L_standing, u_L_wants)) : kMet l yX2_goesWell cX2_goesWell 5 (some .boolean) rm_X2_goesWell D (kTY cI cC cZ) [.ref a_L, .int p1] (WD6 cI cC cZ a_L a_L_wants a_F a_F_table a_F_spots a_F_points a_F_walls a_F_across a_F_bareLight L_hung L_dead L_standing L_wants F_glow F_spotCount F_pointCount F_wallCount F_table F_spots F_points F_walls F_across F_bareLight) sz (kQI D (kTY cI cC cZ) (va_A (WD6 cI cC cZ a_L a_L_wants a_F a_F_table a_F_spots a_F_points a_F_walls a_F_across a_F_bareLight L_hung L_dead L_standing L_wants F_glow F_spotCount F_pointCount F_wallCount F_table F_spots F_points F_walls F_across F_bareLight) sz) rr (WD6 cI cC cZ a_L a_L_wants a_F a_F_table a_F_spots a_F_points a_F_walls a_F_across a_F_bareLight u_L_hung u_L_dead u_L_standing u_L_wants F_glow F_spotCount F_pointCount F_wallCount F_table F_spots F_points F_walls F_across F_bareLight)) := by
  refine kEnter (lv := [(0, .ref a_L), (1, .int p1)]) (own := RX2) (by decide) rfl (Nat.le_of_ble_eq_true rfl) rfl ?_
  intro p e s m below meth c hsz C0 hP hD hS ls hl
  generalize (va_A (WD6 cI cC cZ a_L a_L_wants a_F a_F_table a_F_spots a_F_points a_F_walls a_F_across a_F_bareLight L_hung L_dead L_standing L_wants F_glow F_spotCount F_pointCount F_wallCount F_table F_spots F_points F_walls F_across F_bareLight) sz) = A at C0 hD hS ⊢
  clear hsz hS
  obtain ⟨H, hHs⟩ : ∃ H : Heap, H = s.heap := ⟨_, rfl⟩
  have hS : va_S A s.heap H [] := by rw [hHs]; exact va_S.rf
  rw [← hHs] at hP ⊢
  obtain ⟨hx, hb, hr, hml, hown, hts, hK, hN, hA, hlocks, hF⟩ := id C0
  have h := hf
  unfold f_X2_goesWell at h
  refine lv_iload_n hx hb dX2_goesWell_0 rfl (lv_at hl 1 rfl) ?_
  refine lv_bipush (v := (100 : Int32)) hx hb dX2_goesWell_1 (by decide) ?_
  refine lv_idiv hx hb dX2_goesWell_3 (by decide) ?_
  refine lv_bipush (v := (10 : Int32)) hx hb dX2_goesWell_4 (by decide) ?_
  refine lv_irem hx hb dX2_goesWell_6 (by decide) ?_
  refine lv_topi (fun t1 e_t1 => ?_)
  have h := oc_nm e_t1 h
  refine lv_istore_n (lv' := [(2, .int t1), (0, .ref a_L), (1, .int p1)]) hx hb dX2_goesWell_7 rfl hl (by decide) rfl (fun ls hl => ?_)
  refine lv_iload_n hx hb dX2_goesWell_8 rfl (lv_at hl 2 rfl) ?_
  refine lv_bipush (v := (10 : Int32)) hx hb dX2_goesWell_9 (by decide) ?_
  refine lv_idiv hx hb dX2_goesWell_11 (by decide) ?_
  refine lv_bipush (v := (10 : Int32)) hx hb dX2_goesWell_12 (by decide) ?_
  refine lv_irem hx hb dX2_goesWell_14 (by decide) ?_
  refine lv_topi (fun t2 e_t2 => ?_)
  have h := oc_nm e_t2 h
  refine lv_istore_n (lv' := [(3, .int t2), (2, .int t1), (0, .ref a_L), (1, .int p1)]) hx hb dX2_goesWell_15 rfl hl (by decide) rfl (fun ls hl => ?_)
  refine lv_iload_n hx hb dX2_goesWell_16 rfl (lv_at hl 3 rfl) ?_
  refine lv_bipush (v := (10 : Int32)) hx hb dX2_goesWell_17 (by decide) ?_
  refine lv_irem hx hb dX2_goesWell_19 (by decide) ?_
  refine lv_topi (fun t3 e_t3 => ?_)
  have h := oc_nm e_t3 h
  refine lv_istore (lv' := [(4, .int t3), (3, .int t2), (2, .int t1), (0, .ref a_L), (1, .int p1)]) hx hb dX2_goesWell_20 hl (by decide) rfl (fun ls hl => ?_)
  refine lv_iload_n hx hb dX2_goesWell_22 rfl (lv_at hl 4 rfl) ?_
  refine lv_sipush (v := (1000 : Int32)) hx hb dX2_goesWell_23 (by decide) ?_
  refine lv_idiv hx hb dX2_goesWell_26 (by decide) ?_
  by_cases c4 : (p1 / (1000 : Int32)) = (1 : Int32)
  · have h := oc_t c4 h
    refine lv_tableIn (tgt := 68) (off := 41) hx hb dX2_goesWell_27 (by rw [c4]; decide) (by rw [c4]; decide) (by rw [c4]; rfl) (by decide) ?_
    refine lv_iload_n hx hb dX2_goesWell_68 rfl (lv_at hl 1 rfl) ?_
    refine lv_if_ne (tgt := 89) hx hb dX2_goesWell_69 (by decide) (fun c5 => ?_) (fun c5 => ?_)
    · have h := oc_f c5 h
      refine lv_iconst (v := (0 : Int32)) hx hb dX2_goesWell_89 (by decide) ?_
      cases h
      exact kret_i C0 hP hD hS (by decide) dX2_goesWell_90
    · have h := oc_t c5 h
      refine lv_iload hx hb dX2_goesWell_72 (lv_at hl 0 rfl) ?_
      refine lv_if_ne (tgt := 89) hx hb dX2_goesWell_74 (by decide) (fun c6 => ?_) (fun c6 => ?_)
      · have h := oc_f c6 h
        refine lv_iconst (v := (0 : Int32)) hx hb dX2_goesWell_89 (by decide) ?_
        cases h
        exact kret_i C0 hP hD hS (by decide) dX2_goesWell_90
      · have h := oc_t c6 h
        refine lv_aload_n hx hb dX2_goesWell_77 rfl (lv_at hl 3 rfl) ?_
        refine lv_iload_n hx hb dX2_goesWell_78 rfl (lv_at hl 2 rfl) ?_
        obtain ⟨r8, u9, u10, hc7, h⟩ := oc_b3 h
        refine kgo_i (wc := (WD6 cI cC cZ a_L a_L_wants a_F a_F_table a_F_spots a_F_points a_F_walls a_F_across a_F_bareLight L_hung L_dead L_standing L_wants F_glow F_spotCount F_pointCount F_wallCount F_table F_spots F_points F_walls F_across F_bareLight)) (wc' := (WD6 cI cC cZ a_L a_L_wants a_F a_F_table a_F_spots a_F_points a_F_walls a_F_across a_F_bareLight u9 u10 L_standing L_wants F_glow F_spotCount F_pointCount F_wallCount F_table F_spots F_points F_walls F_across F_bareLight)) (ws' := (WD6 cI cC cZ a_L a_L_wants a_F a_F_table a_F_spots a_F_points a_F_walls a_F_across a_F_bareLight u9 u10 L_standing L_wants F_glow F_spotCount F_pointCount F_wallCount F_table F_spots F_points F_walls F_across F_bareLight)) C0 hP hD hS [0, 1, 2, 3, 4, 5, 6, 7, 8] [] [0, 1, 2, 3, 4, 5, 6, 7, 8] [] rfl rfl (by decide) (by decide) rfl (by decide) (kV (n := 1) (As := [.int t1]) (rest := []) (wc := (WD6 cI cC cZ a_L a_L_wants a_F a_F_table a_F_spots a_F_points a_F_walls a_F_across a_F_bareLight L_hung L_dead L_standing L_wants F_glow F_spotCount F_pointCount F_wallCount F_table F_spots F_points F_walls F_across F_bareLight)) (C := RX2) C0 hP hD hS [0, 1, 2, 3, 4, 5, 6, 7, 8] rfl (by decide) (c_X2_triesLamp l D cI cC cZ a_L a_L_wants a_F a_F_table a_F_spots a_F_points a_F_walls a_F_across a_F_bareLight H.size L_hung L_dead L_standing L_wants F_glow F_spotCount F_pointCount F_wallCount F_table F_spots F_points F_walls F_across F_bareLight t1 r8 u9 u10 hc7) kw_634 kw_631 kw_632 kw_633 kw_23 (by decide +kernel) (by decide) rfl rfl rfl hl.1 rfl (Nat.le_of_ble_eq_true rfl) ⟨Nat.zero_le _, Nat.zero_le _⟩ dX2_goesWell_79) (fun H locs hP hD hS => ?_)
        refine lv_if_eq (tgt := 89) hx hb dX2_goesWell_82 (by decide) (fun c11 => ?_) (fun c11 => ?_)
        · have h := oc_t c11 h
          refine lv_iconst (v := (0 : Int32)) hx hb dX2_goesWell_89 (by decide) ?_
          cases h
          exact kret_i C0 hP hD hS (by decide) dX2_goesWell_90
        · have h := oc_f c11 h
          refine lv_iconst (v := (1 : Int32)) hx hb dX2_goesWell_85 (by decide) ?_
          refine lv_goto (tgt := 90) hx hb dX2_goesWell_86 (by decide) ?_
          cases h
          exact kret_i C0 hP hD hS (by decide) dX2_goesWell_90
  · have h := oc_f c4 h
    by_cases c12 : (p1 / (1000 : Int32)) = (2 : Int32)
    · have h := oc_t c12 h
      refine lv_tableIn (tgt := 91) (off := 64) hx hb dX2_goesWell_27 (by rw [c12]; decide) (by rw [c12]; decide) (by rw [c12]; rfl) (by decide) ?_
      refine lv_iload_n hx hb dX2_goesWell_91 rfl (lv_at hl 1 rfl) ?_
      refine lv_if_ne (tgt := 112) hx hb dX2_goesWell_92 (by decide) (fun c13 => ?_) (fun c13 => ?_)
      · have h := oc_f c13 h
        refine lv_iconst (v := (0 : Int32)) hx hb dX2_goesWell_112 (by decide) ?_
        cases h
        exact kret_i C0 hP hD hS (by decide) dX2_goesWell_113
      · have h := oc_t c13 h
        refine lv_iload hx hb dX2_goesWell_95 (lv_at hl 0 rfl) ?_
        refine lv_if_ne (tgt := 112) hx hb dX2_goesWell_97 (by decide) (fun c14 => ?_) (fun c14 => ?_)
        · have h := oc_f c14 h
          refine lv_iconst (v := (0 : Int32)) hx hb dX2_goesWell_112 (by decide) ?_
          cases h
          exact kret_i C0 hP hD hS (by decide) dX2_goesWell_113
        · have h := oc_t c14 h
          refine lv_aload_n hx hb dX2_goesWell_100 rfl (lv_at hl 3 rfl) ?_
          refine lv_iload_n hx hb dX2_goesWell_101 rfl (lv_at hl 2 rfl) ?_
          obtain ⟨r16, u17, u18, hc15, h⟩ := oc_b3 h
          refine kgo_i (wc := (WD6 cI cC cZ a_L a_L_wants a_F a_F_table a_F_spots a_F_points a_F_walls a_F_across a_F_bareLight L_hung L_dead L_standing L_wants F_glow F_spotCount F_pointCount F_wallCount F_table F_spots F_points F_walls F_across F_bareLight)) (wc' := (WD6 cI cC cZ a_L a_L_wants a_F a_F_table a_F_spots a_F_points a_F_walls a_F_across a_F_bareLight u17 u18 L_standing L_wants F_glow F_spotCount F_pointCount F_wallCount F_table F_spots F_points F_walls F_across F_bareLight)) (ws' := (WD6 cI cC cZ a_L a_L_wants a_F a_F_table a_F_spots a_F_points a_F_walls a_F_across a_F_bareLight u17 u18 L_standing L_wants F_glow F_spotCount F_pointCount F_wallCount F_table F_spots F_points F_walls F_across F_bareLight)) C0 hP hD hS [0, 1, 2, 3, 4, 5, 6, 7, 8] [] [0, 1, 2, 3, 4, 5, 6, 7, 8] [] rfl rfl (by decide) (by decide) rfl (by decide) (kV (n := 1) (As := [.int t1]) (rest := []) (wc := (WD6 cI cC cZ a_L a_L_wants a_F a_F_table a_F_spots a_F_points a_F_walls a_F_across a_F_bareLight L_hung L_dead L_standing L_wants F_glow F_spotCount F_pointCount F_wallCount F_table F_spots F_points F_walls F_across F_bareLight)) (C := RX2) C0 hP hD hS [0, 1, 2, 3, 4, 5, 6, 7, 8] rfl (by decide) (c_X2_triesDead l D cI cC cZ a_L a_L_wants a_F a_F_table a_F_spots a_F_points a_F_walls a_F_across a_F_bareLight H.size L_hung L_dead L_standing L_wants F_glow F_spotCount F_pointCount F_wallCount F_table F_spots F_points F_walls F_across F_bareLight t1 r16 u17 u18 hc15) kw_639 kw_636 kw_637 kw_638 kw_23 (by decide +kernel) (by decide) rfl rfl rfl hl.1 rfl (Nat.le_of_ble_eq_true rfl) ⟨Nat.zero_le _, Nat.zero_le _⟩ dX2_goesWell_102) (fun H locs hP hD hS => ?_)
          refine lv_if_eq (tgt := 112) hx hb dX2_goesWell_105 (by decide) (fun c19 => ?_) (fun c19 => ?_)
          · have h := oc_t c19 h
            refine lv_iconst (v := (0 : Int32)) hx hb dX2_goesWell_112 (by decide) ?_
            cases h
            exact kret_i C0 hP hD hS (by decide) dX2_goesWell_113
          · have h := oc_f c19 h
            refine lv_iconst (v := (1 : Int32)) hx hb dX2_goesWell_108 (by decide) ?_
            refine lv_goto (tgt := 113) hx hb dX2_goesWell_109 (by decide) ?_
            cases h
            exact kret_i C0 hP hD hS (by decide) dX2_goesWell_113
    · have h := oc_f c12 h
      by_cases c20 : (p1 / (1000 : Int32)) = (3 : Int32)
      · have h := oc_t c20 h
        refine lv_tableIn (tgt := 114) (off := 87) hx hb dX2_goesWell_27 (by rw [c20]; decide) (by rw [c20]; decide) (by rw [c20]; rfl) (by decide) ?_
        refine lv_iload_n hx hb dX2_goesWell_114 rfl (lv_at hl 1 rfl) ?_
        refine lv_if_ne (tgt := 135) hx hb dX2_goesWell_115 (by decide) (fun c21 => ?_) (fun c21 => ?_)
        · have h := oc_f c21 h
          refine lv_iconst (v := (0 : Int32)) hx hb dX2_goesWell_135 (by decide) ?_
          cases h
          exact kret_i C0 hP hD hS (by decide) dX2_goesWell_136
        · have h := oc_t c21 h
          refine lv_iload hx hb dX2_goesWell_118 (lv_at hl 0 rfl) ?_
          refine lv_if_ne (tgt := 135) hx hb dX2_goesWell_120 (by decide) (fun c22 => ?_) (fun c22 => ?_)
          · have h := oc_f c22 h
            refine lv_iconst (v := (0 : Int32)) hx hb dX2_goesWell_135 (by decide) ?_
            cases h
            exact kret_i C0 hP hD hS (by decide) dX2_goesWell_136
          · have h := oc_t c22 h
            refine lv_aload_n hx hb dX2_goesWell_123 rfl (lv_at hl 3 rfl) ?_
            refine lv_iload_n hx hb dX2_goesWell_124 rfl (lv_at hl 2 rfl) ?_
            obtain ⟨r24, u25, hc23, h⟩ := oc_b2 h
            refine kgo_i (wc := (WD6 cI cC cZ a_L a_L_wants a_F a_F_table a_F_spots a_F_points a_F_walls a_F_across a_F_bareLight L_hung L_dead L_standing L_wants F_glow F_spotCount F_pointCount F_wallCount F_table F_spots F_points F_walls F_across F_bareLight)) (wc' := (WD6 cI cC cZ a_L a_L_wants a_F a_F_table a_F_spots a_F_points a_F_walls a_F_across a_F_bareLight L_hung L_dead u25 L_wants F_glow F_spotCount F_pointCount F_wallCount F_table F_spots F_points F_walls F_across F_bareLight)) (ws' := (WD6 cI cC cZ a_L a_L_wants a_F a_F_table a_F_spots a_F_points a_F_walls a_F_across a_F_bareLight L_hung L_dead u25 L_wants F_glow F_spotCount F_pointCount F_wallCount F_table F_spots F_points F_walls F_across F_bareLight)) C0 hP hD hS [0, 1, 2, 3, 4, 5, 6, 7, 8] [] [0, 1, 2, 3, 4, 5, 6, 7, 8] [] rfl rfl (by decide) (by decide) rfl (by decide) (kV (n := 1) (As := [.int t1]) (rest := []) (wc := (WD6 cI cC cZ a_L a_L_wants a_F a_F_table a_F_spots a_F_points a_F_walls a_F_across a_F_bareLight L_hung L_dead L_standing L_wants F_glow F_spotCount F_pointCount F_wallCount F_table F_spots F_points F_walls F_across F_bareLight)) (C := RX2) C0 hP hD hS [0, 1, 2, 3, 4, 5, 6, 7, 8] rfl (by decide) (c_X2_triesWall l D cI cC cZ a_L a_L_wants a_F a_F_table a_F_spots a_F_points a_F_walls a_F_across a_F_bareLight H.size L_hung L_dead L_standing L_wants F_glow F_spotCount F_pointCount F_wallCount F_table F_spots F_points F_walls F_across F_bareLight t1 r24 u25 hc23) kw_644 kw_641 kw_642 kw_643 kw_23 (by decide +kernel) (by decide) rfl rfl rfl hl.1 rfl (Nat.le_of_ble_eq_true rfl) ⟨Nat.zero_le _, Nat.zero_le _⟩ dX2_goesWell_125) (fun H locs hP hD hS => ?_)
            refine lv_if_eq (tgt := 135) hx hb dX2_goesWell_128 (by decide) (fun c26 => ?_) (fun c26 => ?_)
            · have h := oc_t c26 h
              refine lv_iconst (v := (0 : Int32)) hx hb dX2_goesWell_135 (by decide) ?_
              cases h
              exact kret_i C0 hP hD hS (by decide) dX2_goesWell_136
            · have h := oc_f c26 h
              refine lv_iconst (v := (1 : Int32)) hx hb dX2_goesWell_131 (by decide) ?_
              refine lv_goto (tgt := 136) hx hb dX2_goesWell_132 (by decide) ?_
              cases h
              exact kret_i C0 hP hD hS (by decide) dX2_goesWell_136
      · have h := oc_f c20 h
        by_cases c27 : (p1 / (1000 : Int32)) = (4 : Int32)
        · have h := oc_t c27 h
          refine lv_tableIn (tgt := 137) (off := 110) hx hb dX2_goesWell_27 (by rw [c27]; decide) (by rw [c27]; decide) (by rw [c27]; rfl) (by decide) ?_
          refine lv_aload_n hx hb dX2_goesWell_137 rfl (lv_at hl 3 rfl) ?_
          refine va_get (D := D) (ci := 2) (v := .ref a_F) (C := RX2) (T := TX2) (N := 5) hx hb hts inlX2 hown hK hP 0 rfl rfl 0 (by decide) (hts _ kw_60) (fun _ h9 => h9) rfl dX2_goesWell_138 ?_
          refine lv_iload_n hx hb dX2_goesWell_141 rfl (lv_at hl 2 rfl) ?_
          obtain ⟨r29, hc28, h⟩ := oc_bind h
          refine kro_i (wc := (WD2 cI cC cZ a_F a_F_table a_F_spots a_F_points a_F_walls a_F_across a_F_bareLight F_glow F_spotCount F_pointCount F_wallCount F_table F_spots F_points F_walls F_across F_bareLight)) C0 hP hD hS [2, 3, 4, 5, 6, 7, 8] rfl (kVN (n := 1) (As := [.int t1]) (rest := []) (wc := (WD2 cI cC cZ a_F a_F_table a_F_spots a_F_points a_F_walls a_F_across a_F_bareLight F_glow F_spotCount F_pointCount F_wallCount F_table F_spots F_points F_walls F_across F_bareLight)) (C := RX1) C0 hP hD hS [2, 3, 4, 5, 6, 7, 8] rfl (by decide) (c_X1_hasPoint l D cI cC cZ a_F a_F_table a_F_spots a_F_points a_F_walls a_F_across a_F_bareLight H.size F_glow F_spotCount F_pointCount F_wallCount F_table F_spots F_points F_walls F_across F_bareLight t1 r29 hc28) kw_261 (ks_m12 hN) kw_259 kw_260 kw_19 (by decide +kernel) (by decide) rfl rfl rfl hl.1 rfl (Nat.le_of_ble_eq_true rfl) ⟨Nat.zero_le _, Nat.zero_le _⟩ dX2_goesWell_142) (fun H locs hP hS => ?_)
          refine lv_if_eq (tgt := 167) hx hb dX2_goesWell_145 (by decide) (fun c30 => ?_) (fun c30 => ?_)
          · have h := oc_t c30 h
            refine lv_iconst (v := (0 : Int32)) hx hb dX2_goesWell_167 (by decide) ?_
            cases h
            exact kret_i C0 hP hD hS (by decide) dX2_goesWell_168
          · have h := oc_f c30 h
            refine lv_aload_n hx hb dX2_goesWell_148 rfl (lv_at hl 3 rfl) ?_
            refine lv_iload_n hx hb dX2_goesWell_149 rfl (lv_at hl 2 rfl) ?_
            obtain ⟨r32, hc31, h⟩ := oc_bind h
            refine kro_i (wc := (WD6 cI cC cZ a_L a_L_wants a_F a_F_table a_F_spots a_F_points a_F_walls a_F_across a_F_bareLight L_hung L_dead L_standing L_wants F_glow F_spotCount F_pointCount F_wallCount F_table F_spots F_points F_walls F_across F_bareLight)) C0 hP hD hS [0, 1, 2, 3, 4, 5, 6, 7, 8] rfl (kV (n := 1) (As := [.int t1]) (rest := []) (wc := (WD6 cI cC cZ a_L a_L_wants a_F a_F_table a_F_spots a_F_points a_F_walls a_F_across a_F_bareLight L_hung L_dead L_standing L_wants F_glow F_spotCount F_pointCount F_wallCount F_table F_spots F_points F_walls F_across F_bareLight)) (C := RX2) C0 hP hD hS [0, 1, 2, 3, 4, 5, 6, 7, 8] rfl (by decide) (c_X2_sumOf l D cI cC cZ a_L a_L_wants a_F a_F_table a_F_spots a_F_points a_F_walls a_F_across a_F_bareLight H.size L_hung L_dead L_standing L_wants F_glow F_spotCount F_pointCount F_wallCount F_table F_spots F_points F_walls F_across F_bareLight t1 r32 hc31) kw_309 kw_326 kw_307 kw_308 kw_23 (by decide +kernel) (by decide) rfl rfl rfl hl.1 rfl (Nat.le_of_ble_eq_true rfl) ⟨Nat.zero_le _, Nat.zero_le _⟩ dX2_goesWell_150) (fun H locs hP hS => ?_)
            refine lv_bipush (v := (10 : Int32)) hx hb dX2_goesWell_153 (by decide) ?_
            refine lv_iload_n hx hb dX2_goesWell_155 rfl (lv_at hl 1 rfl) ?_
            refine lv_imul hx hb dX2_goesWell_156 ?_
            refine lv_iload hx hb dX2_goesWell_157 (lv_at hl 0 rfl) ?_
            refine lv_iadd hx hb dX2_goesWell_159 ?_
            refine lv_icmp_lt (tgt := 167) hx hb dX2_goesWell_160 (by decide) (fun c33 => ?_) (fun c33 => ?_)
            · have h := oc_t c33 h
              refine lv_iconst (v := (0 : Int32)) hx hb dX2_goesWell_167 (by decide) ?_
              cases h
              exact kret_i C0 hP hD hS (by decide) dX2_goesWell_168
            · have h := oc_f c33 h
              refine lv_iconst (v := (1 : Int32)) hx hb dX2_goesWell_163 (by decide) ?_
              refine lv_goto (tgt := 168) hx hb dX2_goesWell_164 (by decide) ?_
              cases h
              exact kret_i C0 hP hD hS (by decide) dX2_goesWell_168
        · have h := oc_f c27 h
          by_cases c34 : (p1 / (1000 : Int32)) = (5 : Int32)
          · have h := oc_t c34 h
            refine lv_tableIn (tgt := 169) (off := 142) hx hb dX2_goesWell_27 (by rw [c34]; decide) (by rw [c34]; decide) (by rw [c34]; rfl) (by decide) ?_
            refine lv_aload_n hx hb dX2_goesWell_169 rfl (lv_at hl 3 rfl) ?_
            refine va_get (D := D) (ci := 2) (v := .ref a_F) (C := RX2) (T := TX2) (N := 5) hx hb hts inlX2 hown hK hP 0 rfl rfl 0 (by decide) (hts _ kw_60) (fun _ h9 => h9) rfl dX2_goesWell_170 ?_
            refine lv_iload_n hx hb dX2_goesWell_173 rfl (lv_at hl 2 rfl) ?_
            obtain ⟨r36, hc35, h⟩ := oc_bind h
            refine kro_i (wc := (WD2 cI cC cZ a_F a_F_table a_F_spots a_F_points a_F_walls a_F_across a_F_bareLight F_glow F_spotCount F_pointCount F_wallCount F_table F_spots F_points F_walls F_across F_bareLight)) C0 hP hD hS [2, 3, 4, 5, 6, 7, 8] rfl (kVN (n := 1) (As := [.int t1]) (rest := []) (wc := (WD2 cI cC cZ a_F a_F_table a_F_spots a_F_points a_F_walls a_F_across a_F_bareLight F_glow F_spotCount F_pointCount F_wallCount F_table F_spots F_points F_walls F_across F_bareLight)) (C := RX1) C0 hP hD hS [2, 3, 4, 5, 6, 7, 8] rfl (by decide) (c_X1_hasPoint l D cI cC cZ a_F a_F_table a_F_spots a_F_points a_F_walls a_F_across a_F_bareLight H.size F_glow F_spotCount F_pointCount F_wallCount F_table F_spots F_points F_walls F_across F_bareLight t1 r36 hc35) kw_261 (ks_m12 hN) kw_259 kw_260 kw_19 (by decide +kernel) (by decide) rfl rfl rfl hl.1 rfl (Nat.le_of_ble_eq_true rfl) ⟨Nat.zero_le _, Nat.zero_le _⟩ dX2_goesWell_174) (fun H locs hP hS => ?_)
            refine lv_if_eq (tgt := 212) hx hb dX2_goesWell_177 (by decide) (fun c37 => ?_) (fun c37 => ?_)
            · have h := oc_t c37 h
              refine lv_iconst (v := (0 : Int32)) hx hb dX2_goesWell_212 (by decide) ?_
              cases h
              exact kret_i C0 hP hD hS (by decide) dX2_goesWell_213
            · have h := oc_f c37 h
              refine lv_iload_n hx hb dX2_goesWell_180 rfl (lv_at hl 1 rfl) ?_
              refine lv_iconst (v := (1 : Int32)) hx hb dX2_goesWell_181 (by decide) ?_
              refine lv_icmp_gt (tgt := 212) hx hb dX2_goesWell_182 (by decide) (fun c38 => ?_) (fun c38 => ?_)
              · have h := oc_t c38 h
                refine lv_iconst (v := (0 : Int32)) hx hb dX2_goesWell_212 (by decide) ?_
                cases h
                exact kret_i C0 hP hD hS (by decide) dX2_goesWell_213
              · have h := oc_f c38 h
                refine lv_iload hx hb dX2_goesWell_185 (lv_at hl 0 rfl) ?_
                refine lv_if_ne (tgt := 212) hx hb dX2_goesWell_187 (by decide) (fun c39 => ?_) (fun c39 => ?_)
                · have h := oc_f c39 h
                  refine lv_iconst (v := (0 : Int32)) hx hb dX2_goesWell_212 (by decide) ?_
                  cases h
                  exact kret_i C0 hP hD hS (by decide) dX2_goesWell_213
                · have h := oc_t c39 h
                  refine lv_aload_n hx hb dX2_goesWell_190 rfl (lv_at hl 3 rfl) ?_
                  refine lv_iload_n hx hb dX2_goesWell_191 rfl (lv_at hl 2 rfl) ?_
                  obtain ⟨r41, hc40, h⟩ := oc_bind h
                  refine kro_i (wc := (WD6 cI cC cZ a_L a_L_wants a_F a_F_table a_F_spots a_F_points a_F_walls a_F_across a_F_bareLight L_hung L_dead L_standing L_wants F_glow F_spotCount F_pointCount F_wallCount F_table F_spots F_points F_walls F_across F_bareLight)) C0 hP hD hS [0, 1, 2, 3, 4, 5, 6, 7, 8] rfl (kV (n := 1) (As := [.int t1]) (rest := []) (wc := (WD6 cI cC cZ a_L a_L_wants a_F a_F_table a_F_spots a_F_points a_F_walls a_F_across a_F_bareLight L_hung L_dead L_standing L_wants F_glow F_spotCount F_pointCount F_wallCount F_table F_spots F_points F_walls F_across F_bareLight)) (C := RX2) C0 hP hD hS [0, 1, 2, 3, 4, 5, 6, 7, 8] rfl (by decide) (c_X2_isServed l D cI cC cZ a_L a_L_wants a_F a_F_table a_F_spots a_F_points a_F_walls a_F_across a_F_bareLight H.size L_hung L_dead L_standing L_wants F_glow F_spotCount F_pointCount F_wallCount F_table F_spots F_points F_walls F_across F_bareLight t1 r41 hc40) kw_325 kw_646 kw_323 kw_324 kw_23 (by decide +kernel) (by decide) rfl rfl rfl hl.1 rfl (Nat.le_of_ble_eq_true rfl) ⟨Nat.zero_le _, Nat.zero_le _⟩ dX2_goesWell_192) (fun H locs hP hS => ?_)
                  refine lv_iload_n hx hb dX2_goesWell_195 rfl (lv_at hl 1 rfl) ?_
                  refine lv_iconst (v := (1 : Int32)) hx hb dX2_goesWell_196 (by decide) ?_
                  refine lv_icmp_ne (tgt := 204) hx hb dX2_goesWell_197 (by decide) (fun c42 => ?_) (fun c42 => ?_)
                  · have h := oc_f c42 h
                    refine lv_iconst (v := (0 : Int32)) hx hb dX2_goesWell_204 (by decide) ?_
                    exact wk_X2_goesWell_205 C0  h hP hD hS (lv_sub hl [] rfl)
                  · have h := oc_t c42 h
                    refine lv_iconst (v := (1 : Int32)) hx hb dX2_goesWell_200 (by decide) ?_
                    refine lv_goto (tgt := 205) hx hb dX2_goesWell_201 (by decide) ?_
                    exact wk_X2_goesWell_205 C0  h hP hD hS (lv_sub hl [] rfl)
          · have h := oc_f c34 h
            by_cases c43 : (p1 / (1000 : Int32)) = (6 : Int32)
            · have h := oc_t c43 h
              refine lv_tableIn (tgt := 214) (off := 187) hx hb dX2_goesWell_27 (by rw [c43]; decide) (by rw [c43]; decide) (by rw [c43]; rfl) (by decide) ?_
              refine lv_aload_n hx hb dX2_goesWell_214 rfl (lv_at hl 3 rfl) ?_
              refine lv_iload_n hx hb dX2_goesWell_215 rfl (lv_at hl 2 rfl) ?_
              refine lv_bipush (v := (10 : Int32)) hx hb dX2_goesWell_216 (by decide) ?_
              refine lv_iload_n hx hb dX2_goesWell_218 rfl (lv_at hl 1 rfl) ?_
              refine lv_imul hx hb dX2_goesWell_219 ?_
              refine lv_iload hx hb dX2_goesWell_220 (lv_at hl 0 rfl) ?_
              refine lv_iadd hx hb dX2_goesWell_222 ?_
              obtain ⟨r45, u46, hc44, h⟩ := oc_b2 h
              refine kgo_i (wc := (WD6 cI cC cZ a_L a_L_wants a_F a_F_table a_F_spots a_F_points a_F_walls a_F_across a_F_bareLight L_hung L_dead L_standing L_wants F_glow F_spotCount F_pointCount F_wallCount F_table F_spots F_points F_walls F_across F_bareLight)) (wc' := (WD6 cI cC cZ a_L a_L_wants a_F a_F_table a_F_spots a_F_points a_F_walls a_F_across a_F_bareLight L_hung L_dead L_standing u46 F_glow F_spotCount F_pointCount F_wallCount F_table F_spots F_points F_walls F_across F_bareLight)) (ws' := (WD6 cI cC cZ a_L a_L_wants a_F a_F_table a_F_spots a_F_points a_F_walls a_F_across a_F_bareLight L_hung L_dead L_standing u46 F_glow F_spotCount F_pointCount F_wallCount F_table F_spots F_points F_walls F_across F_bareLight)) C0 hP hD hS [0, 1, 2, 3, 4, 5, 6, 7, 8] [] [0, 1, 2, 3, 4, 5, 6, 7, 8] [] rfl rfl (by decide) (by decide) rfl (by decide) (kV (n := 2) (As := [.int t1, .int (((10 : Int32) * t2) + t3)]) (rest := []) (wc := (WD6 cI cC cZ a_L a_L_wants a_F a_F_table a_F_spots a_F_points a_F_walls a_F_across a_F_bareLight L_hung L_dead L_standing L_wants F_glow F_spotCount F_pointCount F_wallCount F_table F_spots F_points F_walls F_across F_bareLight)) (C := RX2) C0 hP hD hS [0, 1, 2, 3, 4, 5, 6, 7, 8] rfl (by decide) (c_X2_triesWant l D cI cC cZ a_L a_L_wants a_F a_F_table a_F_spots a_F_points a_F_walls a_F_across a_F_bareLight H.size L_hung L_dead L_standing L_wants F_glow F_spotCount F_pointCount F_wallCount F_table F_spots F_points F_walls F_across F_bareLight t1 (((10 : Int32) * t2) + t3) r45 u46 hc44) kw_650 kw_647 kw_648 kw_649 kw_23 (by decide +kernel) (by decide) rfl rfl rfl hl.1 rfl (Nat.le_of_ble_eq_true rfl) ⟨Nat.zero_le _, Nat.zero_le _⟩ dX2_goesWell_223) (fun H locs hP hD hS => ?_)
              obtain ⟨hn47, h⟩ := oc_then h
              cases h
              exact kret_i C0 hP hD hS (kn_bool hn47) dX2_goesWell_226
            · have h := oc_f c43 h
              by_cases c48 : (p1 / (1000 : Int32)) = (7 : Int32)
              · have h := oc_t c48 h
                refine lv_tableIn (tgt := 227) (off := 200) hx hb dX2_goesWell_27 (by rw [c48]; decide) (by rw [c48]; decide) (by rw [c48]; rfl) (by decide) ?_
                refine lv_aload_n hx hb dX2_goesWell_227 rfl (lv_at hl 3 rfl) ?_
                refine va_get (D := D) (ci := 2) (v := .ref a_F) (C := RX2) (T := TX2) (N := 5) hx hb hts inlX2 hown hK hP 0 rfl rfl 0 (by decide) (hts _ kw_60) (fun _ h9 => h9) rfl dX2_goesWell_228 ?_
                refine lv_iload_n hx hb dX2_goesWell_231 rfl (lv_at hl 2 rfl) ?_
                obtain ⟨r50, hc49, h⟩ := oc_bind h
                refine kro_i (wc := (WD2 cI cC cZ a_F a_F_table a_F_spots a_F_points a_F_walls a_F_across a_F_bareLight F_glow F_spotCount F_pointCount F_wallCount F_table F_spots F_points F_walls F_across F_bareLight)) C0 hP hD hS [2, 3, 4, 5, 6, 7, 8] rfl (kVN (n := 1) (As := [.int t1]) (rest := []) (wc := (WD2 cI cC cZ a_F a_F_table a_F_spots a_F_points a_F_walls a_F_across a_F_bareLight F_glow F_spotCount F_pointCount F_wallCount F_table F_spots F_points F_walls F_across F_bareLight)) (C := RX1) C0 hP hD hS [2, 3, 4, 5, 6, 7, 8] rfl (by decide) (c_X1_hasSpot l D cI cC cZ a_F a_F_table a_F_spots a_F_points a_F_walls a_F_across a_F_bareLight H.size F_glow F_spotCount F_pointCount F_wallCount F_table F_spots F_points F_walls F_across F_bareLight t1 r50 hc49) kw_287 (ks_m47 hN) kw_285 kw_286 kw_19 (by decide +kernel) (by decide) rfl rfl rfl hl.1 rfl (Nat.le_of_ble_eq_true rfl) ⟨Nat.zero_le _, Nat.zero_le _⟩ dX2_goesWell_232) (fun H locs hP hS => ?_)
                refine lv_if_eq (tgt := 279) hx hb dX2_goesWell_235 (by decide) (fun c51 => ?_) (fun c51 => ?_)
                · have h := oc_t c51 h
                  refine lv_iconst (v := (0 : Int32)) hx hb dX2_goesWell_279 (by decide) ?_
                  cases h
                  exact kret_i C0 hP hD hS (by decide) dX2_goesWell_280
                · have h := oc_f c51 h
                  refine lv_aload_n hx hb dX2_goesWell_238 rfl (lv_at hl 3 rfl) ?_
                  refine va_get (D := D) (ci := 2) (v := .ref a_F) (C := RX2) (T := TX2) (N := 5) hx hb hts inlX2 hown hK hP 0 rfl rfl 0 (by decide) (hts _ kw_60) (fun _ h9 => h9) rfl dX2_goesWell_239 ?_
                  refine lv_iload_n hx hb dX2_goesWell_242 rfl (lv_at hl 1 rfl) ?_
                  obtain ⟨r53, hc52, h⟩ := oc_bind h
                  refine kro_i (wc := (WD2 cI cC cZ a_F a_F_table a_F_spots a_F_points a_F_walls a_F_across a_F_bareLight F_glow F_spotCount F_pointCount F_wallCount F_table F_spots F_points F_walls F_across F_bareLight)) C0 hP hD hS [2, 3, 4, 5, 6, 7, 8] rfl (kVN (n := 1) (As := [.int t2]) (rest := []) (wc := (WD2 cI cC cZ a_F a_F_table a_F_spots a_F_points a_F_walls a_F_across a_F_bareLight F_glow F_spotCount F_pointCount F_wallCount F_table F_spots F_points F_walls F_across F_bareLight)) (C := RX1) C0 hP hD hS [2, 3, 4, 5, 6, 7, 8] rfl (by decide) (c_X1_hasPoint l D cI cC cZ a_F a_F_table a_F_spots a_F_points a_F_walls a_F_across a_F_bareLight H.size F_glow F_spotCount F_pointCount F_wallCount F_table F_spots F_points F_walls F_across F_bareLight t2 r53 hc52) kw_261 (ks_m12 hN) kw_259 kw_260 kw_19 (by decide +kernel) (by decide) rfl rfl rfl hl.1 rfl (Nat.le_of_ble_eq_true rfl) ⟨Nat.zero_le _, Nat.zero_le _⟩ dX2_goesWell_243) (fun H locs hP hS => ?_)
                  refine lv_if_eq (tgt := 279) hx hb dX2_goesWell_246 (by decide) (fun c54 => ?_) (fun c54 => ?_)
                  · have h := oc_t c54 h
                    refine lv_iconst (v := (0 : Int32)) hx hb dX2_goesWell_279 (by decide) ?_
                    cases h
                    exact kret_i C0 hP hD hS (by decide) dX2_goesWell_280
                  · have h := oc_f c54 h
                    refine lv_iload hx hb dX2_goesWell_249 (lv_at hl 0 rfl) ?_
                    refine lv_iconst (v := (1 : Int32)) hx hb dX2_goesWell_251 (by decide) ?_
                    refine lv_icmp_gt (tgt := 279) hx hb dX2_goesWell_252 (by decide) (fun c55 => ?_) (fun c55 => ?_)
                    · have h := oc_t c55 h
                      refine lv_iconst (v := (0 : Int32)) hx hb dX2_goesWell_279 (by decide) ?_
                      cases h
                      exact kret_i C0 hP hD hS (by decide) dX2_goesWell_280
                    · have h := oc_f c55 h
                      refine lv_aload_n hx hb dX2_goesWell_255 rfl (lv_at hl 3 rfl) ?_
                      refine lv_iload_n hx hb dX2_goesWell_256 rfl (lv_at hl 2 rfl) ?_
                      refine lv_iload_n hx hb dX2_goesWell_257 rfl (lv_at hl 1 rfl) ?_
                      obtain ⟨r57, hc56, h⟩ := oc_bind h
                      refine kro_i (wc := (WD6 cI cC cZ a_L a_L_wants a_F a_F_table a_F_spots a_F_points a_F_walls a_F_across a_F_bareLight L_hung L_dead L_standing L_wants F_glow F_spotCount F_pointCount F_wallCount F_table F_spots F_points F_walls F_across F_bareLight)) C0 hP hD hS [0, 1, 2, 3, 4, 5, 6, 7, 8] rfl (kV (n := 2) (As := [.int t1, .int t2]) (rest := []) (wc := (WD6 cI cC cZ a_L a_L_wants a_F a_F_table a_F_spots a_F_points a_F_walls a_F_across a_F_bareLight L_hung L_dead L_standing L_wants F_glow F_spotCount F_pointCount F_wallCount F_table F_spots F_points F_walls F_across F_bareLight)) (C := RX2) C0 hP hD hS [0, 1, 2, 3, 4, 5, 6, 7, 8] rfl (by decide) (c_X2_isShaded l D cI cC cZ a_L a_L_wants a_F a_F_table a_F_spots a_F_points a_F_walls a_F_across a_F_bareLight H.size L_hung L_dead L_standing L_wants F_glow F_spotCount F_pointCount F_wallCount F_table F_spots F_points F_walls F_across F_bareLight t1 t2 r57 hc56) kw_655 kw_652 kw_653 kw_654 kw_23 (by decide +kernel) (by decide) rfl rfl rfl hl.1 rfl (Nat.le_of_ble_eq_true rfl) ⟨Nat.zero_le _, Nat.zero_le _⟩ dX2_goesWell_258) (fun H locs hP hS => ?_)
                      refine lv_iload hx hb dX2_goesWell_261 (lv_at hl 0 rfl) ?_
                      refine lv_iconst (v := (1 : Int32)) hx hb dX2_goesWell_263 (by decide) ?_
                      refine lv_icmp_ne (tgt := 271) hx hb dX2_goesWell_264 (by decide) (fun c58 => ?_) (fun c58 => ?_)
                      · have h := oc_f c58 h
                        refine lv_iconst (v := (0 : Int32)) hx hb dX2_goesWell_271 (by decide) ?_
                        exact wk_X2_goesWell_272 C0  h hP hD hS (lv_sub hl [] rfl)
                      · have h := oc_t c58 h
                        refine lv_iconst (v := (1 : Int32)) hx hb dX2_goesWell_267 (by decide) ?_
                        refine lv_goto (tgt := 272) hx hb dX2_goesWell_268 (by decide) ?_
                        exact wk_X2_goesWell_272 C0  h hP hD hS (lv_sub hl [] rfl)
              · have h := oc_f c48 h
                refine lv_tableOut (tgt := 281) hx hb dX2_goesWell_27 (by have n0 := lv_neT c4 (a := 1) (by decide); have n1 := lv_neT c12 (a := 2) (by decide); have n2 := lv_neT c20 (a := 3) (by decide); have n3 := lv_neT c27 (a := 4) (by decide); have n4 := lv_neT c34 (a := 5) (by decide); have n5 := lv_neT c43 (a := 6) (by decide); have n6 := lv_neT c48 (a := 7) (by decide); omega) (by decide) ?_
                refine lv_iconst (v := (0 : Int32)) hx hb dX2_goesWell_281 (by decide) ?_
                cases h
                exact kret_i C0 hP hD hS (by decide) dX2_goesWell_282
