abbrev rm_X6_greatestDivisor : Room := { frames := 0, cells := 0, slots := 0, locals := 0 }
noncomputable def bk_X6_greatestDivisor_7 (k7 : Int32 → Int32 → Int32 → Option (Int32)) (p2 : Int32) (p3 : Int32) (p4 : Int32) : Option (Int32) := if (64 : Int32) ≤ p4 then (some p2) else (if p3 = 0 then (some p2) else (if p3 = 0 then none else (nm_ (p2 - p2 / p3 * p3) (fun t4 => nm_ (p4 + (1 : Int32)) (fun t5 => k7 p3 t4 t5)))))
set_option maxHeartbeats 4000000 in
set_option maxRecDepth 100000 in
theorem wk_X6_greatestDivisor_7 {p : Program} {l : Launch} {e : Env} {s : State} {m : MethodId} {args : Array Value} {below : List Frame} {meth : Method} {c : Code} {D : va_G} {cI cC cZ : ClassId} {A : Nat → Prop} {p2 : Int32} {p3 : Int32} {p4 : Int32} {k7 : Int32 → Int32 → Int32 → Option (Int32)} {rr : Int32} (C0 : kC p s m args meth c D (kTY cI cC cZ) cX6_greatestDivisor (some .int) 6 RX6 A) (hk7 : ∀ (p2_k : Int32) (p3_k : Int32) (p4_k : Int32), k7 p2_k p3_k p4_k = some rr → ∀ (H : Heap) (locs : List Loc), va_P D vwCl (WD0 cI cC cZ) H → va_D A (WD0 cI cC cZ) → va_S A s.heap H locs → ∀ ls : Array Slot, lv_has ls 6 [(2, .int p2_k), (3, .int p3_k), (4, .int p4_k)] → W p l e rm_X6_greatestDivisor s m args below meth c H locs 0 0 (MQ below (kQI D (kTY cI cC cZ) A rr (WD0 cI cC cZ)) args s 0 0 A) (F0 m 7 ls [])) (h : bk_X6_greatestDivisor_7 k7 p2 p3 p4 = some rr) {H : Heap} {locs : List Loc} (hP : va_P D vwCl (WD0 cI cC cZ) H) (hD : va_D A (WD0 cI cC cZ)) (hS : va_S A s.heap H locs) {ls : Array Slot} (hl : lv_has ls 6 [(2, .int p2), (3, .int p3), (4, .int p4)]) : W p l e rm_X6_greatestDivisor s m args below meth c H locs 0 0 (MQ below (kQI D (kTY cI cC cZ) A rr (WD0 cI cC cZ)) args s 0 0 A) (F0 m 7 ls []) := by
  obtain ⟨hx, hb, hr, hml, hown, hts, hK, hN, hA, hlocks, hF⟩ := id C0
  unfold bk_X6_greatestDivisor_7 at h
  refine lv_iload hx hb dX6_greatestDivisor_7 (lv_at hl 2 rfl) ?_
  refine lv_bipush (v := (64 : Int32)) hx hb dX6_greatestDivisor_9 (by decide) ?_
  refine lv_icmp_ge (tgt := 34) hx hb dX6_greatestDivisor_11 (by decide) (fun c1 => ?_) (fun c1 => ?_)
  · have h := oc_t c1 h
    refine lv_iload_n hx hb dX6_greatestDivisor_34 rfl (lv_at hl 0 rfl) ?_
    cases h
    exact kret_i C0 hP hD hS rfl dX6_greatestDivisor_35
  · have h := oc_f c1 h
    refine lv_iload_n hx hb dX6_greatestDivisor_14 rfl (lv_at hl 1 rfl) ?_
    refine lv_if_eq (tgt := 34) hx hb dX6_greatestDivisor_15 (by decide) (fun c2 => ?_) (fun c2 => ?_)
    · have h := oc_t c2 h
      refine lv_iload_n hx hb dX6_greatestDivisor_34 rfl (lv_at hl 0 rfl) ?_
      cases h
      exact kret_i C0 hP hD hS rfl dX6_greatestDivisor_35
    · have h := oc_f c2 h
      refine lv_iload_n hx hb dX6_greatestDivisor_18 rfl (lv_at hl 0 rfl) ?_
      refine lv_iload_n hx hb dX6_greatestDivisor_19 rfl (lv_at hl 1 rfl) ?_
      obtain ⟨hz3, h⟩ := oc_else h
      refine lv_irem hx hb dX6_greatestDivisor_20 hz3 ?_
      refine lv_topi (fun t4 e_t4 => ?_)
      have h := oc_nm e_t4 h
      refine lv_istore (lv' := [(5, .int t4), (2, .int p2), (3, .int p3), (4, .int p4)]) hx hb dX6_greatestDivisor_21 hl (by decide) rfl (fun ls hl => ?_)
      refine lv_iload_n hx hb dX6_greatestDivisor_23 rfl (lv_at hl 2 rfl) ?_
      refine lv_istore_n (lv' := [(2, .int p3), (5, .int t4), (3, .int p3), (4, .int p4)]) hx hb dX6_greatestDivisor_24 rfl hl (by decide) rfl (fun ls hl => ?_)
      refine lv_iload hx hb dX6_greatestDivisor_25 (lv_at hl 1 rfl) ?_
      refine lv_istore_n (lv' := [(3, .int t4), (2, .int p3), (5, .int t4), (4, .int p4)]) hx hb dX6_greatestDivisor_27 rfl hl (by decide) rfl (fun ls hl => ?_)
      obtain ⟨t5, e_t5⟩ : ∃ y : Int32, y = p4 + (1 : Int32) := ⟨_, rfl⟩
      have h := oc_nm e_t5 h
      refine lv_iinc (v := t5) (lv' := [(4, .int t5), (3, .int t4), (2, .int p3), (5, .int t4)]) hx hb dX6_greatestDivisor_28 hl (k := 3) rfl (by rw [e_t5]; rfl) (by decide) rfl (fun ls hl => ?_)
      refine lv_goto (tgt := 7) hx hb dX6_greatestDivisor_31 (by decide) ?_
      exact hk7 _ _ _ h _ _ hP hD hS _ (lv_sub hl [2, 1, 0] rfl)
noncomputable def lp_X6_greatestDivisor_7   (n : Nat) : Int32 → Int32 → Int32 → Option (Int32) := Nat.rec (motive := fun _ => Int32 → Int32 → Int32 → Option (Int32)) (fun _ _ _ => none) (fun _ ih => bk_X6_greatestDivisor_7  ih ) n
set_option maxHeartbeats 4000000 in
set_option maxRecDepth 100000 in
theorem wl_X6_greatestDivisor_7 {p : Program} {l : Launch} {e : Env} {s : State} {m : MethodId} {args : Array Value} {below : List Frame} {meth : Method} {c : Code} {D : va_G} {cI cC cZ : ClassId} {A : Nat → Prop}   {rr : Int32} (C0 : kC p s m args meth c D (kTY cI cC cZ) cX6_greatestDivisor (some .int) 6 RX6 A)  : ∀ (n : Nat) (p2 : Int32) (p3 : Int32) (p4 : Int32), lp_X6_greatestDivisor_7   n p2 p3 p4 = some rr → ∀ (H : Heap) (locs : List Loc), va_P D vwCl (WD0 cI cC cZ) H → va_D A (WD0 cI cC cZ) → va_S A s.heap H locs → ∀ ls : Array Slot, lv_has ls 6 [(2, .int p2), (3, .int p3), (4, .int p4)] → W p l e rm_X6_greatestDivisor s m args below meth c H locs 0 0 (MQ below (kQI D (kTY cI cC cZ) A rr (WD0 cI cC cZ)) args s 0 0 A) (F0 m 7 ls []) := by
  intro n
  induction n with
  | zero => intro p2 p3 p4 h; cases (show (none : Option (Int32)) = some _ from h)
  | succ n ih =>
    intro p2 p3 p4 h H locs hP hD hS ls hl
    exact wk_X6_greatestDivisor_7 C0  (fun p2 p3 p4 h H locs hP hD hS ls hl => ih p2 p3 p4 h H locs hP hD hS ls hl) (show bk_X6_greatestDivisor_7  (lp_X6_greatestDivisor_7   n) p2 p3 p4 = some _ from h) hP hD hS hl
noncomputable def f_X6_greatestDivisor  (p0 : Int32) (p1 : Int32) : Option (Int32) := lp_X6_greatestDivisor_7   1000 p1 p0 (0 : Int32)
set_option maxHeartbeats 4000000 in
set_option maxRecDepth 100000 in
theorem c_X6_greatestDivisor (l : Launch) (D : va_G) (cI cC cZ : ClassId) (sz : Nat) (p0 : Int32) (p1 : Int32) (rr : Int32) (hf : f_X6_greatestDivisor p0 p1 = some rr) : kMet l yX6_greatestDivisor cX6_greatestDivisor 6 (some .int) rm_X6_greatestDivisor D (kTY cI cC cZ) [.int p0, .int p1] (WD0 cI cC cZ) sz (kQI D (kTY cI cC cZ) (va_A (WD0 cI cC cZ) sz) rr (WD0 cI cC cZ)) := by
  refine kEnter (lv := [(0, .int p0), (1, .int p1)]) (own := RX6) (by decide) rfl (Nat.le_of_ble_eq_true rfl) rfl ?_
  intro p e s m below meth c hsz C0 hP hD hS ls hl
  generalize (va_A (WD0 cI cC cZ) sz) = A at C0 hD hS ⊢
  clear hsz hS
  obtain ⟨H, hHs⟩ : ∃ H : Heap, H = s.heap := ⟨_, rfl⟩
  have hS : va_S A s.heap H [] := by rw [hHs]; exact va_S.rf
  rw [← hHs] at hP ⊢
  obtain ⟨hx, hb, hr, hml, hown, hts, hK, hN, hA, hlocks, hF⟩ := id C0
  have h := hf
  unfold f_X6_greatestDivisor at h
  refine lv_iload_n hx hb dX6_greatestDivisor_0 rfl (lv_at hl 1 rfl) ?_
  refine lv_istore_n (lv' := [(2, .int p1), (0, .int p0), (1, .int p1)]) hx hb dX6_greatestDivisor_1 rfl hl (by decide) rfl (fun ls hl => ?_)
  refine lv_iload_n hx hb dX6_greatestDivisor_2 rfl (lv_at hl 1 rfl) ?_
  refine lv_istore_n (lv' := [(3, .int p0), (2, .int p1), (0, .int p0), (1, .int p1)]) hx hb dX6_greatestDivisor_3 rfl hl (by decide) rfl (fun ls hl => ?_)
  refine lv_iconst (v := (0 : Int32)) hx hb dX6_greatestDivisor_4 (by decide) ?_
  refine lv_istore (lv' := [(4, .int (0 : Int32)), (3, .int p0), (2, .int p1), (0, .int p0), (1, .int p1)]) hx hb dX6_greatestDivisor_5 hl (by decide) rfl (fun ls hl => ?_)
  exact wl_X6_greatestDivisor_7 C0  _ _ _ _ h _ _ hP hD hS _ (lv_sub hl [2, 1, 0] rfl)
abbrev rm_X6_told : Room := { frames := 1, cells := 0, slots := 0, locals := 25 }
noncomputable def f_X6_told  (p0 : Int32) (p1 : Int32) (p2 : Int32) : Option (Int32) := (f_X6_greatestDivisor p0 p1).bind (fun r2 => if (1 : Int32) ≤ r2 then (if p2 = 0 then (if r2 = 0 then none else (some (p1 / r2))) else (if r2 = 0 then none else (some (p0 / r2)))) else (if p2 = 0 then (some p1) else (some p0)))
set_option maxHeartbeats 4000000 in
set_option maxRecDepth 100000 in
theorem c_X6_told (l : Launch) (D : va_G) (cI cC cZ : ClassId) (sz : Nat) (p0 : Int32) (p1 : Int32) (p2 : Int32) (rr : Int32) (hf : f_X6_told p0 p1 p2 = some rr) : kMet l yX6_told cX6_told 4 (some .int) rm_X6_told D (kTY cI cC cZ) [.int p0, .int p1, .int p2] (WD0 cI cC cZ) sz (kQI D (kTY cI cC cZ) (va_A (WD0 cI cC cZ) sz) rr (WD0 cI cC cZ)) := by
  refine kEnter (lv := [(0, .int p0), (1, .int p1), (2, .int p2)]) (own := RX6) (by decide) rfl (Nat.le_of_ble_eq_true rfl) rfl ?_
  intro p e s m below meth c hsz C0 hP hD hS ls hl
  generalize (va_A (WD0 cI cC cZ) sz) = A at C0 hD hS ⊢
  clear hsz hS
  obtain ⟨H, hHs⟩ : ∃ H : Heap, H = s.heap := ⟨_, rfl⟩
  have hS : va_S A s.heap H [] := by rw [hHs]; exact va_S.rf
  rw [← hHs] at hP ⊢
  obtain ⟨hx, hb, hr, hml, hown, hts, hK, hN, hA, hlocks, hF⟩ := id C0
  have h := hf
  unfold f_X6_told at h
  refine lv_iload_n hx hb dX6_told_0 rfl (lv_at hl 0 rfl) ?_
  refine lv_iload_n hx hb dX6_told_1 rfl (lv_at hl 1 rfl) ?_
  obtain ⟨r2, hc1, h⟩ := oc_bind h
  refine kro_i (wc := (WD0 cI cC cZ)) C0 hP hD hS [] rfl (kS (n := 2) (As := [.int p0, .int p1]) (rest := []) (wc := (WD0 cI cC cZ)) C0 hP hD hS [] rfl (by decide) (c_X6_greatestDivisor l D cI cC cZ  H.size  p0 p1 r2 hc1) kw_722 kw_720 kw_721 kw_2 (by decide +kernel) (by decide) rfl hl.1 rfl (Nat.le_of_ble_eq_true rfl) ⟨Nat.zero_le _, Nat.zero_le _⟩ dX6_told_2) (fun H locs hP hS => ?_)
  refine lv_istore_n (lv' := [(3, .int r2), (0, .int p0), (1, .int p1), (2, .int p2)]) hx hb dX6_told_5 rfl hl (by decide) rfl (fun ls hl => ?_)
  refine lv_iload_n hx hb dX6_told_6 rfl (lv_at hl 0 rfl) ?_
  refine lv_iconst (v := (1 : Int32)) hx hb dX6_told_7 (by decide) ?_
  refine lv_icmp_ge (tgt := 21) hx hb dX6_told_8 (by decide) (fun c3 => ?_) (fun c3 => ?_)
  · have h := oc_t c3 h
    refine lv_iload_n hx hb dX6_told_21 rfl (lv_at hl 3 rfl) ?_
    refine lv_if_eq (tgt := 29) hx hb dX6_told_22 (by decide) (fun c4 => ?_) (fun c4 => ?_)
    · have h := oc_t c4 h
      refine lv_iload_n hx hb dX6_told_29 rfl (lv_at hl 2 rfl) ?_
      refine lv_iload_n hx hb dX6_told_30 rfl (lv_at hl 0 rfl) ?_
      obtain ⟨hz5, h⟩ := oc_else h
      refine lv_idiv hx hb dX6_told_31 hz5 ?_
      cases h
      exact kret_i C0 hP hD hS rfl dX6_told_32
    · have h := oc_f c4 h
      refine lv_iload_n hx hb dX6_told_25 rfl (lv_at hl 1 rfl) ?_
      refine lv_goto (tgt := 30) hx hb dX6_told_26 (by decide) ?_
      refine lv_iload_n hx hb dX6_told_30 rfl (lv_at hl 0 rfl) ?_
      obtain ⟨hz6, h⟩ := oc_else h
      refine lv_idiv hx hb dX6_told_31 hz6 ?_
      cases h
      exact kret_i C0 hP hD hS rfl dX6_told_32
  · have h := oc_f c3 h
    refine lv_iload_n hx hb dX6_told_11 rfl (lv_at hl 3 rfl) ?_
    refine lv_if_eq (tgt := 19) hx hb dX6_told_12 (by decide) (fun c7 => ?_) (fun c7 => ?_)
    · have h := oc_t c7 h
      refine lv_iload_n hx hb dX6_told_19 rfl (lv_at hl 2 rfl) ?_
      cases h
      exact kret_i C0 hP hD hS rfl dX6_told_20
    · have h := oc_f c7 h
      refine lv_iload_n hx hb dX6_told_15 rfl (lv_at hl 1 rfl) ?_
      refine lv_goto (tgt := 20) hx hb dX6_told_16 (by decide) ?_
      cases h
      exact kret_i C0 hP hD hS rfl dX6_told_20
abbrev rm_X6_share : Room := { frames := 4, cells := 0, slots := 0, locals := 96 }
noncomputable def f_X6_share (F_glow : Int32) (F_spotCount : Int32) (F_pointCount : Int32) (F_across : Nat → Int32) (F_bareLight : Nat → Int32) (N_hung : Int32) (N_dead : Int32) (N_standing : Int32) (N_wants : Nat → Int32) (Z_served : Nat → Int32) (Z_sums : Nat → Int32) (p1 : Int32) (p2 : Int32) : Option (Int32 × (Nat → Int32) × (Nat → Int32)) := (f_X1_hasSpot F_spotCount p1).bind (fun r2 => if r2 = 0 then (some ((-1 : Int32), Z_served, Z_sums)) else ((f_X2_lampAt N_hung N_dead p1).bind (fun r5 => if r5 = (1 : Int32) then ((f_X4_weigh Z_served Z_sums F_glow F_spotCount F_pointCount F_across F_bareLight N_standing N_wants).bind (fun z => un2 z (fun u8 u9 => (f_X2_live N_hung N_dead).bind (fun r11 => (f_J6_bitCount r11).bind (fun r13 => (f_X2_live N_hung N_dead).bind (fun r15 => (f_X4_gainInAllOrders u8 F_spotCount p1 r15).bind (fun r17 => (f_X6_factorial r13).bind (fun r19 => (f_X6_told r17 r19 p2).bind (fun r21 => some (r21, u8, u9)))))))))) else (some ((-3 : Int32), Z_served, Z_sums)))))
set_option maxHeartbeats 4000000 in
set_option maxRecDepth 100000 in
theorem c_X6_share (l : Launch) (D : va_G) (cI cC cZ : ClassId) (a_X a_X_doings a_T a_T_letters a_F a_F_table a_F_spots a_F_points a_F_walls a_F_across a_F_bareLight a_N a_N_wants a_R a_R_wants a_P a_P_wants a_Q a_Q_wants a_A a_A_kinds a_A_numbers a_A_befores a_S a_S_points a_S_values a_S_were a_Z a_Z_served a_Z_sums : Nat) (sz : Nat) (X_filledSlots : Int32) (X_theSeed : Int64) (X_doings : Nat → Int32) (T_length : Int32) (T_letters : Nat → Int32) (F_glow : Int32) (F_spotCount : Int32) (F_pointCount : Int32) (F_wallCount : Int32) (F_table : Nat → Int32) (F_spots : Nat → Int32) (F_points : Nat → Int32) (F_walls : Nat → Int32) (F_across : Nat → Int32) (F_bareLight : Nat → Int32) (N_hung : Int32) (N_dead : Int32) (N_standing : Int32) (N_wants : Nat → Int32) (R_hung : Int32) (R_dead : Int32) (R_standing : Int32) (R_wants : Nat → Int32) (P_hung : Int32) (P_dead : Int32) (P_standing : Int32) (P_wants : Nat → Int32) (Q_hung : Int32) (Q_dead : Int32) (Q_standing : Int32) (Q_wants : Nat → Int32) (A_size : Int32) (A_kinds : Nat → Int32) (A_numbers : Nat → Int32) (A_befores : Nat → Int32) (S_size : Int32) (S_points : Nat → Int32) (S_values : Nat → Int32) (S_were : Nat → Int32) (Z_served : Nat → Int32) (Z_sums : Nat → Int32) (p1 : Int32) (p2 : Int32) (rr : Int32) (u_Z_served : Nat → Int32) (u_Z_sums : Nat → Int32) (hf : f_X6_share F_glow F_spotCount F_pointCount F_across F_bareLight N_hung N_dead N_standing N_wants Z_served Z_sums p1 p2 = some (rr, u_Z_served, u_Z_sums)) : kMet l yX6_share cX6_share 4 (some .int) rm_X6_share D (kTY cI cC cZ) [.ref a_X, .int p1, .int p2] (WD14 cI cC cZ a_X a_X_doings a_T a_T_letters a_F a_F_table a_F_spots a_F_points a_F_walls a_F_across a_F_bareLight a_N a_N_wants a_R a_R_wants a_P a_P_wants a_Q a_Q_wants a_A a_A_kinds a_A_numbers a_A_befores a_S a_S_points a_S_values a_S_were a_Z a_Z_served a_Z_sums X_filledSlots X_theSeed X_doings T_length T_letters F_glow F_spotCount F_pointCount F_wallCount F_table F_spots F_points F_walls F_across F_bareLight N_hung N_dead N_standing N_wants R_hung R_dead R_standing R_wants P_hung P_dead P_standing P_wants Q_hung Q_dead Q_standing Q_wants A_size A_kinds A_numbers A_befores S_size S_points S_values S_were Z_served Z_sums) sz (kQI D (kTY cI cC cZ) (va_A (WD14 cI cC cZ a_X a_X_doings a_T a_T_letters a_F a_F_table a_F_spots a_F_points a_F_walls a_F_across a_F_bareLight a_N a_N_wants a_R a_R_wants a_P a_P_wants a_Q a_Q_wants a_A a_A_kinds a_A_numbers a_A_befores a_S a_S_points a_S_values a_S_were a_Z a_Z_served a_Z_sums X_filledSlots X_theSeed X_doings T_length T_letters F_glow F_spotCount F_pointCount F_wallCount F_table F_spots F_points F_walls F_across F_bareLight N_hung N_dead N_standing N_wants R_hung R_dead R_standing R_wants P_hung P_dead P_standing P_wants Q_hung Q_dead Q_standing Q_wants A_size A_kinds A_numbers A_befores S_size S_points S_values S_were Z_served Z_sums) sz) rr (WD14 cI cC cZ a_X a_X_doings a_T a_T_letters a_F a_F_table a_F_spots a_F_points a_F_walls a_F_across a_F_bareLight a_N a_N_wants a_R a_R_wants a_P a_P_wants a_Q a_Q_wants a_A a_A_kinds a_A_numbers a_A_befores a_S a_S_points a_S_values a_S_were a_Z a_Z_served a_Z_sums X_filledSlots X_theSeed X_doings T_length T_letters F_glow F_spotCount F_pointCount F_wallCount F_table F_spots F_points F_walls F_across F_bareLight N_hung N_dead N_standing N_wants R_hung R_dead R_standing R_wants P_hung P_dead P_standing P_wants Q_hung Q_dead Q_standing Q_wants A_size A_kinds A_numbers A_befores S_size S_points S_values S_were u_Z_served u_Z_sums)) := by
  refine kEnter (lv := [(0, .ref a_X), (1, .int p1), (2, .int p2)]) (own := RX6) (by decide) rfl (Nat.le_of_ble_eq_true rfl) rfl ?_
  intro p e s m below meth c hsz C0 hP hD hS ls hl
  generalize (va_A (WD14 cI cC cZ a_X a_X_doings a_T a_T_letters a_F a_F_table a_F_spots a_F_points a_F_walls a_F_across a_F_bareLight a_N a_N_wants a_R a_R_wants a_P a_P_wants a_Q a_Q_wants a_A a_A_kinds a_A_numbers a_A_befores a_S a_S_points a_S_values a_S_were a_Z a_Z_served a_Z_sums X_filledSlots X_theSeed X_doings T_length T_letters F_glow F_spotCount F_pointCount F_wallCount F_table F_spots F_points F_walls F_across F_bareLight N_hung N_dead N_standing N_wants R_hung R_dead R_standing R_wants P_hung P_dead P_standing P_wants Q_hung Q_dead Q_standing Q_wants A_size A_kinds A_numbers A_befores S_size S_points S_values S_were Z_served Z_sums) sz) = A at C0 hD hS ⊢
  clear hsz hS
  obtain ⟨H, hHs⟩ : ∃ H : Heap, H = s.heap := ⟨_, rfl⟩
  have hS : va_S A s.heap H [] := by rw [hHs]; exact va_S.rf
  rw [← hHs] at hP ⊢
  obtain ⟨hx, hb, hr, hml, hown, hts, hK, hN, hA, hlocks, hF⟩ := id C0
  have h := hf
  unfold f_X6_share at h
  refine lv_aload_n hx hb dX6_share_0 rfl (lv_at hl 0 rfl) ?_
  refine va_get (D := D) (ci := 6) (v := .ref a_F) (C := RX6) (T := TX6) (N := 12) hx hb hts inlX6 hown hK hP 0 rfl rfl 1 (by decide) (hts _ kw_20) (fun _ h9 => h9) rfl dX6_share_1 ?_
  refine lv_iload_n hx hb dX6_share_4 rfl (lv_at hl 1 rfl) ?_
  obtain ⟨r2, hc1, h⟩ := oc_bind h
  refine kro_i (wc := (WD2 cI cC cZ a_F a_F_table a_F_spots a_F_points a_F_walls a_F_across a_F_bareLight F_glow F_spotCount F_pointCount F_wallCount F_table F_spots F_points F_walls F_across F_bareLight)) C0 hP hD hS [4, 5, 6, 7, 8, 9, 10] rfl (kVN (n := 1) (As := [.int p1]) (rest := []) (wc := (WD2 cI cC cZ a_F a_F_table a_F_spots a_F_points a_F_walls a_F_across a_F_bareLight F_glow F_spotCount F_pointCount F_wallCount F_table F_spots F_points F_walls F_across F_bareLight)) (C := RX1) C0 hP hD hS [4, 5, 6, 7, 8, 9, 10] rfl (by decide) (c_X1_hasSpot l D cI cC cZ a_F a_F_table a_F_spots a_F_points a_F_walls a_F_across a_F_bareLight H.size F_glow F_spotCount F_pointCount F_wallCount F_table F_spots F_points F_walls F_across F_bareLight p1 r2 hc1) kw_287 (ks_m14 hN) kw_285 kw_286 kw_19 (by decide +kernel) (by decide) rfl rfl rfl hl.1 rfl (Nat.le_of_ble_eq_true rfl) ⟨Nat.zero_le _, Nat.zero_le _⟩ dX6_share_5) (fun H locs hP hS => ?_)
  refine lv_if_ne (tgt := 13) hx hb dX6_share_8 (by decide) (fun c3 => ?_) (fun c3 => ?_)
  · have h := oc_f c3 h
    refine lv_aload_n hx hb dX6_share_13 rfl (lv_at hl 0 rfl) ?_
    refine va_get (D := D) (ci := 6) (v := .ref a_N) (C := RX6) (T := TX6) (N := 12) hx hb hts inlX6 hown hK hP 0 rfl rfl 2 (by decide) (hts _ kw_24) (fun _ h9 => h9) rfl dX6_share_14 ?_
    refine lv_iload_n hx hb dX6_share_17 rfl (lv_at hl 1 rfl) ?_
    obtain ⟨r5, hc4, h⟩ := oc_bind h
    refine kro_i (wc := (WD6 cI cC cZ a_N a_N_wants a_F a_F_table a_F_spots a_F_points a_F_walls a_F_across a_F_bareLight N_hung N_dead N_standing N_wants F_glow F_spotCount F_pointCount F_wallCount F_table F_spots F_points F_walls F_across F_bareLight)) C0 hP hD hS [11, 12, 4, 5, 6, 7, 8, 9, 10] rfl (kVN (n := 1) (As := [.int p1]) (rest := []) (wc := (WD6 cI cC cZ a_N a_N_wants a_F a_F_table a_F_spots a_F_points a_F_walls a_F_across a_F_bareLight N_hung N_dead N_standing N_wants F_glow F_spotCount F_pointCount F_wallCount F_table F_spots F_points F_walls F_across F_bareLight)) (C := RX2) C0 hP hD hS [11, 12, 4, 5, 6, 7, 8, 9, 10] rfl (by decide) (c_X2_lampAt l D cI cC cZ a_N a_N_wants a_F a_F_table a_F_spots a_F_points a_F_walls a_F_across a_F_bareLight H.size N_hung N_dead N_standing N_wants F_glow F_spotCount F_pointCount F_wallCount F_table F_spots F_points F_walls F_across F_bareLight p1 r5 hc4) kw_290 (ks_m15 hN) kw_288 kw_289 kw_23 (by decide +kernel) (by decide) rfl rfl rfl hl.1 rfl (Nat.le_of_ble_eq_true rfl) ⟨Nat.zero_le _, Nat.zero_le _⟩ dX6_share_18) (fun H locs hP hS => ?_)
    refine lv_iconst (v := (1 : Int32)) hx hb dX6_share_21 (by decide) ?_
    refine lv_icmp_eq (tgt := 28) hx hb dX6_share_22 (by decide) (fun c6 => ?_) (fun c6 => ?_)
    · have h := oc_t c6 h
      refine lv_aload_n hx hb dX6_share_28 rfl (lv_at hl 0 rfl) ?_
      refine va_get (D := D) (ci := 6) (v := .ref a_Z) (C := RX6) (T := TX6) (N := 12) hx hb hts inlX6 hown hK hP 0 rfl rfl 8 (by decide) (hts _ kw_39) (fun _ h9 => h9) rfl dX6_share_29 ?_
      refine lv_aload_n hx hb dX6_share_32 rfl (lv_at hl 0 rfl) ?_
      refine va_get (D := D) (ci := 6) (v := .ref a_N) (C := RX6) (T := TX6) (N := 12) hx hb hts inlX6 hown hK hP 0 rfl rfl 2 (by decide) (hts _ kw_24) (fun _ h9 => h9) rfl dX6_share_33 ?_
      obtain ⟨u8, u9, hc7, h⟩ := oc_b2 h
      refine kgo_v (wc := (WD13 cI cC cZ a_Z a_Z_served a_Z_sums a_F a_F_table a_F_spots a_F_points a_F_walls a_F_across a_F_bareLight a_N a_N_wants Z_served Z_sums F_glow F_spotCount F_pointCount F_wallCount F_table F_spots F_points F_walls F_across F_bareLight N_hung N_dead N_standing N_wants)) (wc' := (WD13 cI cC cZ a_Z a_Z_served a_Z_sums a_F a_F_table a_F_spots a_F_points a_F_walls a_F_across a_F_bareLight a_N a_N_wants u8 u9 F_glow F_spotCount F_pointCount F_wallCount F_table F_spots F_points F_walls F_across F_bareLight N_hung N_dead N_standing N_wants)) (ws' := (WD14 cI cC cZ a_X a_X_doings a_T a_T_letters a_F a_F_table a_F_spots a_F_points a_F_walls a_F_across a_F_bareLight a_N a_N_wants a_R a_R_wants a_P a_P_wants a_Q a_Q_wants a_A a_A_kinds a_A_numbers a_A_befores a_S a_S_points a_S_values a_S_were a_Z a_Z_served a_Z_sums X_filledSlots X_theSeed X_doings T_length T_letters F_glow F_spotCount F_pointCount F_wallCount F_table F_spots F_points F_walls F_across F_bareLight N_hung N_dead N_standing N_wants R_hung R_dead R_standing R_wants P_hung P_dead P_standing P_wants Q_hung Q_dead Q_standing Q_wants A_size A_kinds A_numbers A_befores S_size S_points S_values S_were u8 u9)) C0 hP hD hS [27, 28, 29, 4, 5, 6, 7, 8, 9, 10, 11, 12] [0, 1, 2, 3, 13, 14, 15, 16, 17, 18, 19, 20, 21, 22, 23, 24, 25, 26] [0, 1, 2, 3, 21, 22, 23, 24, 25, 26, 27, 28, 29, 4, 5, 6, 7, 8, 9, 10, 11, 12, 13, 14, 15, 16, 17, 18, 19, 20] [(a_X, .inr (6, [.ref a_T, .ref a_F, .ref a_N, .ref a_R, .ref a_P, .ref a_Q, .ref a_A, .ref a_S, .ref a_Z, .ref a_X_doings, .int X_filledSlots, .long X_theSeed])), (a_X_doings, .inl (cI, 4, .inl X_doings)), (a_T, .inr (5, [.ref a_T_letters, .int T_length])), (a_T_letters, .inl (cC, 99, .inl T_letters)), (a_R, .inr (2, [.ref a_F, .ref a_R_wants, .int R_hung, .int R_dead, .int R_standing])), (a_R_wants, .inl (cI, 6, .inl R_wants)), (a_P, .inr (2, [.ref a_F, .ref a_P_wants, .int P_hung, .int P_dead, .int P_standing])), (a_P_wants, .inl (cI, 6, .inl P_wants)), (a_Q, .inr (2, [.ref a_F, .ref a_Q_wants, .int Q_hung, .int Q_dead, .int Q_standing])), (a_Q_wants, .inl (cI, 6, .inl Q_wants)), (a_A, .inr (0, [.ref a_A_kinds, .ref a_A_numbers, .ref a_A_befores, .int A_size])), (a_A_kinds, .inl (cI, 14, .inl A_kinds)), (a_A_numbers, .inl (cI, 14, .inl A_numbers)), (a_A_befores, .inl (cI, 14, .inl A_befores)), (a_S, .inr (3, [.ref a_S_points, .ref a_S_values, .ref a_S_were, .int S_size])), (a_S_points, .inl (cI, 6, .inl S_points)), (a_S_values, .inl (cI, 6, .inl S_values)), (a_S_were, .inl (cZ, 6, .inl S_were))] rfl rfl (by decide) (by decide) rfl (by decide) (kVN (n := 1) (As := [.ref a_N]) (rest := []) (wc := (WD13 cI cC cZ a_Z a_Z_served a_Z_sums a_F a_F_table a_F_spots a_F_points a_F_walls a_F_across a_F_bareLight a_N a_N_wants Z_served Z_sums F_glow F_spotCount F_pointCount F_wallCount F_table F_spots F_points F_walls F_across F_bareLight N_hung N_dead N_standing N_wants)) (C := RX4) C0 hP hD hS [27, 28, 29, 4, 5, 6, 7, 8, 9, 10, 11, 12] rfl (by decide) (c_X4_weigh l D cI cC cZ a_Z a_Z_served a_Z_sums a_F a_F_table a_F_spots a_F_points a_F_walls a_F_across a_F_bareLight a_N a_N_wants H.size Z_served Z_sums F_glow F_spotCount F_pointCount F_wallCount F_table F_spots F_points F_walls F_across F_bareLight N_hung N_dead N_standing N_wants  u8 u9 hc7) kw_330 (ks_m23 hN) kw_328 kw_329 kw_38 (by decide +kernel) (by decide) rfl rfl rfl hl.1 rfl (Nat.le_of_ble_eq_true rfl) ⟨Nat.zero_le _, Nat.zero_le _⟩ dX6_share_36) (fun H locs hP hD hS => ?_)
      refine lv_aload_n hx hb dX6_share_39 rfl (lv_at hl 0 rfl) ?_
      refine va_get (D := D) (ci := 6) (v := .ref a_N) (C := RX6) (T := TX6) (N := 12) hx hb hts inlX6 hown hK hP 0 rfl rfl 2 (by decide) (hts _ kw_24) (fun _ h9 => h9) rfl dX6_share_40 ?_
      obtain ⟨r11, hc10, h⟩ := oc_bind h
      refine kro_i (wc := (WD6 cI cC cZ a_N a_N_wants a_F a_F_table a_F_spots a_F_points a_F_walls a_F_across a_F_bareLight N_hung N_dead N_standing N_wants F_glow F_spotCount F_pointCount F_wallCount F_table F_spots F_points F_walls F_across F_bareLight)) C0 hP hD hS [11, 12, 4, 5, 6, 7, 8, 9, 10] rfl (kVN (n := 0) (As := []) (rest := []) (wc := (WD6 cI cC cZ a_N a_N_wants a_F a_F_table a_F_spots a_F_points a_F_walls a_F_across a_F_bareLight N_hung N_dead N_standing N_wants F_glow F_spotCount F_pointCount F_wallCount F_table F_spots F_points F_walls F_across F_bareLight)) (C := RX2) C0 hP hD hS [11, 12, 4, 5, 6, 7, 8, 9, 10] rfl (by decide) (c_X2_live l D cI cC cZ a_N a_N_wants a_F a_F_table a_F_spots a_F_points a_F_walls a_F_across a_F_bareLight H.size N_hung N_dead N_standing N_wants F_glow F_spotCount F_pointCount F_wallCount F_table F_spots F_points F_walls F_across F_bareLight  r11 hc10) kw_313 (ks_m42 hN) kw_311 kw_312 kw_23 (by decide +kernel) (by decide) rfl rfl rfl hl.1 rfl (Nat.le_of_ble_eq_true rfl) ⟨Nat.zero_le _, Nat.zero_le _⟩ dX6_share_43) (fun H locs hP hS => ?_)
      obtain ⟨r13, hc12, h⟩ := oc_bind h
      refine kro_i (wc := (WD0 cI cC cZ)) C0 hP hD hS [] rfl (kS (n := 1) (As := [.int r11]) (rest := []) (wc := (WD0 cI cC cZ)) C0 hP hD hS [] rfl (by decide) (c_J6_bitCount l D cI cC cZ  H.size  r11 r13 hc12) kw_447 kw_445 kw_446 kw_418 (by decide +kernel) (by decide) rfl hl.1 rfl (Nat.le_of_ble_eq_true rfl) ⟨Nat.zero_le _, Nat.zero_le _⟩ dX6_share_46) (fun H locs hP hS => ?_)
      refine lv_istore_n (lv' := [(3, .int r13), (0, .ref a_X), (1, .int p1), (2, .int p2)]) hx hb dX6_share_49 rfl hl (by decide) rfl (fun ls hl => ?_)
      refine lv_aload_n hx hb dX6_share_50 rfl (lv_at hl 1 rfl) ?_
      refine va_get (D := D) (ci := 6) (v := .ref a_Z) (C := RX6) (T := TX6) (N := 12) hx hb hts inlX6 hown hK hP 0 rfl rfl 8 (by decide) (hts _ kw_39) (fun _ h9 => h9) rfl dX6_share_51 ?_
      refine lv_iload_n hx hb dX6_share_54 rfl (lv_at hl 2 rfl) ?_
      refine lv_aload_n hx hb dX6_share_55 rfl (lv_at hl 1 rfl) ?_
      refine va_get (D := D) (ci := 6) (v := .ref a_N) (C := RX6) (T := TX6) (N := 12) hx hb hts inlX6 hown hK hP 0 rfl rfl 2 (by decide) (hts _ kw_24) (fun _ h9 => h9) rfl dX6_share_56 ?_
      obtain ⟨r15, hc14, h⟩ := oc_bind h
      refine kro_i (wc := (WD6 cI cC cZ a_N a_N_wants a_F a_F_table a_F_spots a_F_points a_F_walls a_F_across a_F_bareLight N_hung N_dead N_standing N_wants F_glow F_spotCount F_pointCount F_wallCount F_table F_spots F_points F_walls F_across F_bareLight)) C0 hP hD hS [11, 12, 4, 5, 6, 7, 8, 9, 10] rfl (kVN (n := 0) (As := []) (rest := [.int p1, .ref a_Z]) (wc := (WD6 cI cC cZ a_N a_N_wants a_F a_F_table a_F_spots a_F_points a_F_walls a_F_across a_F_bareLight N_hung N_dead N_standing N_wants F_glow F_spotCount F_pointCount F_wallCount F_table F_spots F_points F_walls F_across F_bareLight)) (C := RX2) C0 hP hD hS [11, 12, 4, 5, 6, 7, 8, 9, 10] rfl (by decide) (c_X2_live l D cI cC cZ a_N a_N_wants a_F a_F_table a_F_spots a_F_points a_F_walls a_F_across a_F_bareLight H.size N_hung N_dead N_standing N_wants F_glow F_spotCount F_pointCount F_wallCount F_table F_spots F_points F_walls F_across F_bareLight  r15 hc14) kw_313 (ks_m42 hN) kw_311 kw_312 kw_23 (by decide +kernel) (by decide) rfl rfl rfl hl.1 rfl (Nat.le_of_ble_eq_true rfl) ⟨Nat.zero_le _, Nat.zero_le _⟩ dX6_share_59) (fun H locs hP hS => ?_)
      obtain ⟨r17, hc16, h⟩ := oc_bind h
      refine kro_i (wc := (WD12 cI cC cZ a_Z a_Z_served a_Z_sums a_F a_F_table a_F_spots a_F_points a_F_walls a_F_across a_F_bareLight u8 u9 F_glow F_spotCount F_pointCount F_wallCount F_table F_spots F_points F_walls F_across F_bareLight)) C0 hP hD hS [27, 28, 29, 4, 5, 6, 7, 8, 9, 10] rfl (kVN (n := 2) (As := [.int p1, .int r15]) (rest := []) (wc := (WD12 cI cC cZ a_Z a_Z_served a_Z_sums a_F a_F_table a_F_spots a_F_points a_F_walls a_F_across a_F_bareLight u8 u9 F_glow F_spotCount F_pointCount F_wallCount F_table F_spots F_points F_walls F_across F_bareLight)) (C := RX4) C0 hP hD hS [27, 28, 29, 4, 5, 6, 7, 8, 9, 10] rfl (by decide) (c_X4_gainInAllOrders l D cI cC cZ a_Z a_Z_served a_Z_sums a_F a_F_table a_F_spots a_F_points a_F_walls a_F_across a_F_bareLight H.size u8 u9 F_glow F_spotCount F_pointCount F_wallCount F_table F_spots F_points F_walls F_across F_bareLight p1 r15 r17 hc16) kw_712 (ks_m54 hN) kw_710 kw_711 kw_38 (by decide +kernel) (by decide) rfl rfl rfl hl.1 rfl (Nat.le_of_ble_eq_true rfl) ⟨Nat.zero_le _, Nat.zero_le _⟩ dX6_share_62) (fun H locs hP hS => ?_)
      refine lv_iload_n hx hb dX6_share_65 rfl (lv_at hl 0 rfl) ?_
      obtain ⟨r19, hc18, h⟩ := oc_bind h
      refine kro_i (wc := (WD0 cI cC cZ)) C0 hP hD hS [] rfl (kS (n := 1) (As := [.int r13]) (rest := [.int r17]) (wc := (WD0 cI cC cZ)) C0 hP hD hS [] rfl (by decide) (c_X6_factorial l D cI cC cZ  H.size  r13 r19 hc18) kw_714 kw_716 kw_713 kw_2 (by decide +kernel) (by decide) rfl hl.1 rfl (Nat.le_of_ble_eq_true rfl) ⟨Nat.zero_le _, Nat.zero_le _⟩ dX6_share_66) (fun H locs hP hS => ?_)
      refine lv_iload_n hx hb dX6_share_69 rfl (lv_at hl 3 rfl) ?_
      obtain ⟨r21, hc20, h⟩ := oc_bind h
      refine kro_i (wc := (WD0 cI cC cZ)) C0 hP hD hS [] rfl (kS (n := 3) (As := [.int r17, .int r19, .int p2]) (rest := []) (wc := (WD0 cI cC cZ)) C0 hP hD hS [] rfl (by decide) (c_X6_told l D cI cC cZ  H.size  r17 r19 p2 r21 hc20) kw_719 kw_717 kw_718 kw_2 (by decide +kernel) (by decide) rfl hl.1 rfl (Nat.le_of_ble_eq_true rfl) ⟨Nat.zero_le _, Nat.zero_le _⟩ dX6_share_70) (fun H locs hP hS => ?_)
      cases h
      exact kret_i C0 hP hD hS rfl dX6_share_73
    · have h := oc_f c6 h
      refine lv_bipush (v := (-3 : Int32)) hx hb dX6_share_25 (by decide) ?_
      cases h
      exact kret_i C0 hP hD hS rfl dX6_share_27
  · have h := oc_t c3 h
    refine lv_iconst (v := (-1 : Int32)) hx hb dX6_share_11 (by decide) ?_
    cases h
    exact kret_i C0 hP hD hS rfl dX6_share_12
abbrev rm_X6_chance : Room := { frames := 4, cells := 0, slots := 0, locals := 96 }
noncomputable def f_X6_chance (F_glow : Int32) (F_spotCount : Int32) (F_pointCount : Int32) (F_across : Nat → Int32) (F_bareLight : Nat → Int32) (N_hung : Int32) (N_dead : Int32) (N_standing : Int32) (N_wants : Nat → Int32) (Z_served : Nat → Int32) (Z_sums : Nat → Int32) (p1 : Int32) (p2 : Int32) : Option (Int32 × (Nat → Int32) × (Nat → Int32)) := if p1 < 0 then (some ((-2 : Int32), Z_served, Z_sums)) else (if p1 ≤ (10 : Int32) then ((f_X4_weigh Z_served Z_sums F_glow F_spotCount F_pointCount F_across F_bareLight N_standing N_wants).bind (fun z => un2 z (fun u4 u5 => (f_X2_live N_hung N_dead).bind (fun r7 => (f_J6_bitCount r7).bind (fun r9 => (f_X2_live N_hung N_dead).bind (fun r11 => (f_X4_weightThatServes u4 F_spotCount F_pointCount r11 p1).bind (fun r13 => (f_X6_power (10 : Int32) r9).bind (fun r15 => (f_X6_told r13 r15 p2).bind (fun r17 => some (r17, u4, u5)))))))))) else (some ((-2 : Int32), Z_served, Z_sums)))
set_option maxHeartbeats 4000000 in
set_option maxRecDepth 100000 in
theorem c_X6_chance (l : Launch) (D : va_G) (cI cC cZ : ClassId) (a_X a_X_doings a_T a_T_letters a_F a_F_table a_F_spots a_F_points a_F_walls a_F_across a_F_bareLight a_N a_N_wants a_R a_R_wants a_P a_P_wants a_Q a_Q_wants a_A a_A_kinds a_A_numbers a_A_befores a_S a_S_points a_S_values a_S_were a_Z a_Z_served a_Z_sums : Nat) (sz : Nat) (X_filledSlots : Int32) (X_theSeed : Int64) (X_doings : Nat → Int32) (T_length : Int32) (T_letters : Nat → Int32) (F_glow : Int32) (F_spotCount : Int32) (F_pointCount : Int32) (F_wallCount : Int32) (F_table : Nat → Int32) (F_spots : Nat → Int32) (F_points : Nat → Int32) (F_walls : Nat → Int32) (F_across : Nat → Int32) (F_bareLight : Nat → Int32) (N_hung : Int32) (N_dead : Int32) (N_standing : Int32) (N_wants : Nat → Int32) (R_hung : Int32) (R_dead : Int32) (R_standing : Int32) (R_wants : Nat → Int32) (P_hung : Int32) (P_dead : Int32) (P_standing : Int32) (P_wants : Nat → Int32) (Q_hung : Int32) (Q_dead : Int32) (Q_standing : Int32) (Q_wants : Nat → Int32) (A_size : Int32) (A_kinds : Nat → Int32) (A_numbers : Nat → Int32) (A_befores : Nat → Int32) (S_size : Int32) (S_points : Nat → Int32) (S_values : Nat → Int32) (S_were : Nat → Int32) (Z_served : Nat → Int32) (Z_sums : Nat → Int32) (p1 : Int32) (p2 : Int32) (rr : Int32) (u_Z_served : Nat → Int32) (u_Z_sums : Nat → Int32) (hf : f_X6_chance F_glow F_spotCount F_pointCount F_across F_bareLight N_hung N_dead N_standing N_wants Z_served Z_sums p1 p2 = some (rr, u_Z_served, u_Z_sums)) : kMet l yX6_chance cX6_chance 4 (some .int) rm_X6_chance D (kTY cI cC cZ) [.ref a_X, .int p1, .int p2] (WD14 cI cC cZ a_X a_X_doings a_T a_T_letters a_F a_F_table a_F_spots a_F_points a_F_walls a_F_across a_F_bareLight a_N a_N_wants a_R a_R_wants a_P a_P_wants a_Q a_Q_wants a_A a_A_kinds a_A_numbers a_A_befores a_S a_S_points a_S_values a_S_were a_Z a_Z_served a_Z_sums X_filledSlots X_theSeed X_doings T_length T_letters F_glow F_spotCount F_pointCount F_wallCount F_table F_spots F_points F_walls F_across F_bareLight N_hung N_dead N_standing N_wants R_hung R_dead R_standing R_wants P_hung P_dead P_standing P_wants Q_hung Q_dead Q_standing Q_wants A_size A_kinds A_numbers A_befores S_size S_points S_values S_were Z_served Z_sums) sz (kQI D (kTY cI cC cZ) (va_A (WD14 cI cC cZ a_X a_X_doings a_T a_T_letters a_F a_F_table a_F_spots a_F_points a_F_walls a_F_across a_F_bareLight a_N a_N_wants a_R a_R_wants a_P a_P_wants a_Q a_Q_wants a_A a_A_kinds a_A_numbers a_A_befores a_S a_S_points a_S_values a_S_were a_Z a_Z_served a_Z_sums X_filledSlots X_theSeed X_doings T_length T_letters F_glow F_spotCount F_pointCount F_wallCount F_table F_spots F_points F_walls F_across F_bareLight N_hung N_dead N_standing N_wants R_hung R_dead R_standing R_wants P_hung P_dead P_standing P_wants Q_hung Q_dead Q_standing Q_wants A_size A_kinds A_numbers A_befores S_size S_points S_values S_were Z_served Z_sums) sz) rr (WD14 cI cC cZ a_X a_X_doings a_T a_T_letters a_F a_F_table a_F_spots a_F_points a_F_walls a_F_across a_F_bareLight a_N a_N_wants a_R a_R_wants a_P a_P_wants a_Q a_Q_wants a_A a_A_kinds a_A_numbers a_A_befores a_S a_S_points a_S_values a_S_were a_Z a_Z_served a_Z_sums X_filledSlots X_theSeed X_doings T_length T_letters F_glow F_spotCount F_pointCount F_wallCount F_table F_spots F_points F_walls F_across F_bareLight N_hung N_dead N_standing N_wants R_hung R_dead R_standing R_wants P_hung P_dead P_standing P_wants Q_hung Q_dead Q_standing Q_wants A_size A_kinds A_numbers A_befores S_size S_points S_values S_were u_Z_served u_Z_sums)) := by
  refine kEnter (lv := [(0, .ref a_X), (1, .int p1), (2, .int p2)]) (own := RX6) (by decide) rfl (Nat.le_of_ble_eq_true rfl) rfl ?_
  intro p e s m below meth c hsz C0 hP hD hS ls hl
  generalize (va_A (WD14 cI cC cZ a_X a_X_doings a_T a_T_letters a_F a_F_table a_F_spots a_F_points a_F_walls a_F_across a_F_bareLight a_N a_N_wants a_R a_R_wants a_P a_P_wants a_Q a_Q_wants a_A a_A_kinds a_A_numbers a_A_befores a_S a_S_points a_S_values a_S_were a_Z a_Z_served a_Z_sums X_filledSlots X_theSeed X_doings T_length T_letters F_glow F_spotCount F_pointCount F_wallCount F_table F_spots F_points F_walls F_across F_bareLight N_hung N_dead N_standing N_wants R_hung R_dead R_standing R_wants P_hung P_dead P_standing P_wants Q_hung Q_dead Q_standing Q_wants A_size A_kinds A_numbers A_befores S_size S_points S_values S_were Z_served Z_sums) sz) = A at C0 hD hS ⊢
  clear hsz hS
  obtain ⟨H, hHs⟩ : ∃ H : Heap, H = s.heap := ⟨_, rfl⟩
  have hS : va_S A s.heap H [] := by rw [hHs]; exact va_S.rf
  rw [← hHs] at hP ⊢
  obtain ⟨hx, hb, hr, hml, hown, hts, hK, hN, hA, hlocks, hF⟩ := id C0
  have h := hf
  unfold f_X6_chance at h
  refine lv_iload_n hx hb dX6_chance_0 rfl (lv_at hl 1 rfl) ?_
  refine lv_if_lt (tgt := 10) hx hb dX6_chance_1 (by decide) (fun c1 => ?_) (fun c1 => ?_)
  · have h := oc_t c1 h
    refine lv_bipush (v := (-2 : Int32)) hx hb dX6_chance_10 (by decide) ?_
    cases h
    exact kret_i C0 hP hD hS rfl dX6_chance_12
  · have h := oc_f c1 h
    refine lv_iload_n hx hb dX6_chance_4 rfl (lv_at hl 1 rfl) ?_
    refine lv_bipush (v := (10 : Int32)) hx hb dX6_chance_5 (by decide) ?_
    refine lv_icmp_le (tgt := 13) hx hb dX6_chance_7 (by decide) (fun c2 => ?_) (fun c2 => ?_)
    · have h := oc_t c2 h
      refine lv_aload_n hx hb dX6_chance_13 rfl (lv_at hl 0 rfl) ?_
      refine va_get (D := D) (ci := 6) (v := .ref a_Z) (C := RX6) (T := TX6) (N := 12) hx hb hts inlX6 hown hK hP 0 rfl rfl 8 (by decide) (hts _ kw_39) (fun _ h9 => h9) rfl dX6_chance_14 ?_
      refine lv_aload_n hx hb dX6_chance_17 rfl (lv_at hl 0 rfl) ?_
      refine va_get (D := D) (ci := 6) (v := .ref a_N) (C := RX6) (T := TX6) (N := 12) hx hb hts inlX6 hown hK hP 0 rfl rfl 2 (by decide) (hts _ kw_24) (fun _ h9 => h9) rfl dX6_chance_18 ?_
      obtain ⟨u4, u5, hc3, h⟩ := oc_b2 h
      refine kgo_v (wc := (WD13 cI cC cZ a_Z a_Z_served a_Z_sums a_F a_F_table a_F_spots a_F_points a_F_walls a_F_across a_F_bareLight a_N a_N_wants Z_served Z_sums F_glow F_spotCount F_pointCount F_wallCount F_table F_spots F_points F_walls F_across F_bareLight N_hung N_dead N_standing N_wants)) (wc' := (WD13 cI cC cZ a_Z a_Z_served a_Z_sums a_F a_F_table a_F_spots a_F_points a_F_walls a_F_across a_F_bareLight a_N a_N_wants u4 u5 F_glow F_spotCount F_pointCount F_wallCount F_table F_spots F_points F_walls F_across F_bareLight N_hung N_dead N_standing N_wants)) (ws' := (WD14 cI cC cZ a_X a_X_doings a_T a_T_letters a_F a_F_table a_F_spots a_F_points a_F_walls a_F_across a_F_bareLight a_N a_N_wants a_R a_R_wants a_P a_P_wants a_Q a_Q_wants a_A a_A_kinds a_A_numbers a_A_befores a_S a_S_points a_S_values a_S_were a_Z a_Z_served a_Z_sums X_filledSlots X_theSeed X_doings T_length T_letters F_glow F_spotCount F_pointCount F_wallCount F_table F_spots F_points F_walls F_across F_bareLight N_hung N_dead N_standing N_wants R_hung R_dead R_standing R_wants P_hung P_dead P_standing P_wants Q_hung Q_dead Q_standing Q_wants A_size A_kinds A_numbers A_befores S_size S_points S_values S_were u4 u5)) C0 hP hD hS [27, 28, 29, 4, 5, 6, 7, 8, 9, 10, 11, 12] [0, 1, 2, 3, 13, 14, 15, 16, 17, 18, 19, 20, 21, 22, 23, 24, 25, 26] [0, 1, 2, 3, 21, 22, 23, 24, 25, 26, 27, 28, 29, 4, 5, 6, 7, 8, 9, 10, 11, 12, 13, 14, 15, 16, 17, 18, 19, 20] [(a_X, .inr (6, [.ref a_T, .ref a_F, .ref a_N, .ref a_R, .ref a_P, .ref a_Q, .ref a_A, .ref a_S, .ref a_Z, .ref a_X_doings, .int X_filledSlots, .long X_theSeed])), (a_X_doings, .inl (cI, 4, .inl X_doings)), (a_T, .inr (5, [.ref a_T_letters, .int T_length])), (a_T_letters, .inl (cC, 99, .inl T_letters)), (a_R, .inr (2, [.ref a_F, .ref a_R_wants, .int R_hung, .int R_dead, .int R_standing])), (a_R_wants, .inl (cI, 6, .inl R_wants)), (a_P, .inr (2, [.ref a_F, .ref a_P_wants, .int P_hung, .int P_dead, .int P_standing])), (a_P_wants, .inl (cI, 6, .inl P_wants)), (a_Q, .inr (2, [.ref a_F, .ref a_Q_wants, .int Q_hung, .int Q_dead, .int Q_standing])), (a_Q_wants, .inl (cI, 6, .inl Q_wants)), (a_A, .inr (0, [.ref a_A_kinds, .ref a_A_numbers, .ref a_A_befores, .int A_size])), (a_A_kinds, .inl (cI, 14, .inl A_kinds)), (a_A_numbers, .inl (cI, 14, .inl A_numbers)), (a_A_befores, .inl (cI, 14, .inl A_befores)), (a_S, .inr (3, [.ref a_S_points, .ref a_S_values, .ref a_S_were, .int S_size])), (a_S_points, .inl (cI, 6, .inl S_points)), (a_S_values, .inl (cI, 6, .inl S_values)), (a_S_were, .inl (cZ, 6, .inl S_were))] rfl rfl (by decide) (by decide) rfl (by decide) (kVN (n := 1) (As := [.ref a_N]) (rest := []) (wc := (WD13 cI cC cZ a_Z a_Z_served a_Z_sums a_F a_F_table a_F_spots a_F_points a_F_walls a_F_across a_F_bareLight a_N a_N_wants Z_served Z_sums F_glow F_spotCount F_pointCount F_wallCount F_table F_spots F_points F_walls F_across F_bareLight N_hung N_dead N_standing N_wants)) (C := RX4) C0 hP hD hS [27, 28, 29, 4, 5, 6, 7, 8, 9, 10, 11, 12] rfl (by decide) (c_X4_weigh l D cI cC cZ a_Z a_Z_served a_Z_sums a_F a_F_table a_F_spots a_F_points a_F_walls a_F_across a_F_bareLight a_N a_N_wants H.size Z_served Z_sums F_glow F_spotCount F_pointCount F_wallCount F_table F_spots F_points F_walls F_across F_bareLight N_hung N_dead N_standing N_wants  u4 u5 hc3) kw_330 (ks_m23 hN) kw_328 kw_329 kw_38 (by decide +kernel) (by decide) rfl rfl rfl hl.1 rfl (Nat.le_of_ble_eq_true rfl) ⟨Nat.zero_le _, Nat.zero_le _⟩ dX6_chance_21) (fun H locs hP hD hS => ?_)
      refine lv_aload_n hx hb dX6_chance_24 rfl (lv_at hl 0 rfl) ?_
      refine va_get (D := D) (ci := 6) (v := .ref a_N) (C := RX6) (T := TX6) (N := 12) hx hb hts inlX6 hown hK hP 0 rfl rfl 2 (by decide) (hts _ kw_24) (fun _ h9 => h9) rfl dX6_chance_25 ?_
      obtain ⟨r7, hc6, h⟩ := oc_bind h
      refine kro_i (wc := (WD6 cI cC cZ a_N a_N_wants a_F a_F_table a_F_spots a_F_points a_F_walls a_F_across a_F_bareLight N_hung N_dead N_standing N_wants F_glow F_spotCount F_pointCount F_wallCount F_table F_spots F_points F_walls F_across F_bareLight)) C0 hP hD hS [11, 12, 4, 5, 6, 7, 8, 9, 10] rfl (kVN (n := 0) (As := []) (rest := []) (wc := (WD6 cI cC cZ a_N a_N_wants a_F a_F_table a_F_spots a_F_points a_F_walls a_F_across a_F_bareLight N_hung N_dead N_standing N_wants F_glow F_spotCount F_pointCount F_wallCount F_table F_spots F_points F_walls F_across F_bareLight)) (C := RX2) C0 hP hD hS [11, 12, 4, 5, 6, 7, 8, 9, 10] rfl (by decide) (c_X2_live l D cI cC cZ a_N a_N_wants a_F a_F_table a_F_spots a_F_points a_F_walls a_F_across a_F_bareLight H.size N_hung N_dead N_standing N_wants F_glow F_spotCount F_pointCount F_wallCount F_table F_spots F_points F_walls F_across F_bareLight  r7 hc6) kw_313 (ks_m42 hN) kw_311 kw_312 kw_23 (by decide +kernel) (by decide) rfl rfl rfl hl.1 rfl (Nat.le_of_ble_eq_true rfl) ⟨Nat.zero_le _, Nat.zero_le _⟩ dX6_chance_28) (fun H locs hP hS => ?_)
      obtain ⟨r9, hc8, h⟩ := oc_bind h
      refine kro_i (wc := (WD0 cI cC cZ)) C0 hP hD hS [] rfl (kS (n := 1) (As := [.int r7]) (rest := []) (wc := (WD0 cI cC cZ)) C0 hP hD hS [] rfl (by decide) (c_J6_bitCount l D cI cC cZ  H.size  r7 r9 hc8) kw_447 kw_445 kw_446 kw_418 (by decide +kernel) (by decide) rfl hl.1 rfl (Nat.le_of_ble_eq_true rfl) ⟨Nat.zero_le _, Nat.zero_le _⟩ dX6_chance_31) (fun H locs hP hS => ?_)
      refine lv_istore_n (lv' := [(3, .int r9), (0, .ref a_X), (1, .int p1), (2, .int p2)]) hx hb dX6_chance_34 rfl hl (by decide) rfl (fun ls hl => ?_)
      refine lv_aload_n hx hb dX6_chance_35 rfl (lv_at hl 1 rfl) ?_
      refine va_get (D := D) (ci := 6) (v := .ref a_Z) (C := RX6) (T := TX6) (N := 12) hx hb hts inlX6 hown hK hP 0 rfl rfl 8 (by decide) (hts _ kw_39) (fun _ h9 => h9) rfl dX6_chance_36 ?_
      refine lv_aload_n hx hb dX6_chance_39 rfl (lv_at hl 1 rfl) ?_
      refine va_get (D := D) (ci := 6) (v := .ref a_N) (C := RX6) (T := TX6) (N := 12) hx hb hts inlX6 hown hK hP 0 rfl rfl 2 (by decide) (hts _ kw_24) (fun _ h9 => h9) rfl dX6_chance_40 ?_
      obtain ⟨r11, hc10, h⟩ := oc_bind h
      refine kro_i (wc := (WD6 cI cC cZ a_N a_N_wants a_F a_F_table a_F_spots a_F_points a_F_walls a_F_across a_F_bareLight N_hung N_dead N_standing N_wants F_glow F_spotCount F_pointCount F_wallCount F_table F_spots F_points F_walls F_across F_bareLight)) C0 hP hD hS [11, 12, 4, 5, 6, 7, 8, 9, 10] rfl (kVN (n := 0) (As := []) (rest := [.ref a_Z]) (wc := (WD6 cI cC cZ a_N a_N_wants a_F a_F_table a_F_spots a_F_points a_F_walls a_F_across a_F_bareLight N_hung N_dead N_standing N_wants F_glow F_spotCount F_pointCount F_wallCount F_table F_spots F_points F_walls F_across F_bareLight)) (C := RX2) C0 hP hD hS [11, 12, 4, 5, 6, 7, 8, 9, 10] rfl (by decide) (c_X2_live l D cI cC cZ a_N a_N_wants a_F a_F_table a_F_spots a_F_points a_F_walls a_F_across a_F_bareLight H.size N_hung N_dead N_standing N_wants F_glow F_spotCount F_pointCount F_wallCount F_table F_spots F_points F_walls F_across F_bareLight  r11 hc10) kw_313 (ks_m42 hN) kw_311 kw_312 kw_23 (by decide +kernel) (by decide) rfl rfl rfl hl.1 rfl (Nat.le_of_ble_eq_true rfl) ⟨Nat.zero_le _, Nat.zero_le _⟩ dX6_chance_43) (fun H locs hP hS => ?_)
      refine lv_iload_n hx hb dX6_chance_46 rfl (lv_at hl 2 rfl) ?_
      obtain ⟨r13, hc12, h⟩ := oc_bind h
      refine kro_i (wc := (WD12 cI cC cZ a_Z a_Z_served a_Z_sums a_F a_F_table a_F_spots a_F_points a_F_walls a_F_across a_F_bareLight u4 u5 F_glow F_spotCount F_pointCount F_wallCount F_table F_spots F_points F_walls F_across F_bareLight)) C0 hP hD hS [27, 28, 29, 4, 5, 6, 7, 8, 9, 10] rfl (kVN (n := 2) (As := [.int r11, .int p1]) (rest := []) (wc := (WD12 cI cC cZ a_Z a_Z_served a_Z_sums a_F a_F_table a_F_spots a_F_points a_F_walls a_F_across a_F_bareLight u4 u5 F_glow F_spotCount F_pointCount F_wallCount F_table F_spots F_points F_walls F_across F_bareLight)) (C := RX4) C0 hP hD hS [27, 28, 29, 4, 5, 6, 7, 8, 9, 10] rfl (by decide) (c_X4_weightThatServes l D cI cC cZ a_Z a_Z_served a_Z_sums a_F a_F_table a_F_spots a_F_points a_F_walls a_F_across a_F_bareLight H.size u4 u5 F_glow F_spotCount F_pointCount F_wallCount F_table F_spots F_points F_walls F_across F_bareLight r11 p1 r13 hc12) kw_746 (ks_m56 hN) kw_744 kw_745 kw_38 (by decide +kernel) (by decide) rfl rfl rfl hl.1 rfl (Nat.le_of_ble_eq_true rfl) ⟨Nat.zero_le _, Nat.zero_le _⟩ dX6_chance_47) (fun H locs hP hS => ?_)
      refine lv_bipush (v := (10 : Int32)) hx hb dX6_chance_50 (by decide) ?_
      refine lv_iload_n hx hb dX6_chance_52 rfl (lv_at hl 0 rfl) ?_
      obtain ⟨r15, hc14, h⟩ := oc_bind h
      refine kro_i (wc := (WD0 cI cC cZ)) C0 hP hD hS [] rfl (kS (n := 2) (As := [.int (10 : Int32), .int r9]) (rest := [.int r13]) (wc := (WD0 cI cC cZ)) C0 hP hD hS [] rfl (by decide) (c_X6_power l D cI cC cZ  H.size  (10 : Int32) r9 r15 hc14) kw_748 kw_749 kw_747 kw_2 (by decide +kernel) (by decide) rfl hl.1 rfl (Nat.le_of_ble_eq_true rfl) ⟨Nat.zero_le _, Nat.zero_le _⟩ dX6_chance_53) (fun H locs hP hS => ?_)
      refine lv_iload_n hx hb dX6_chance_56 rfl (lv_at hl 3 rfl) ?_
      obtain ⟨r17, hc16, h⟩ := oc_bind h
      refine kro_i (wc := (WD0 cI cC cZ)) C0 hP hD hS [] rfl (kS (n := 3) (As := [.int r13, .int r15, .int p2]) (rest := []) (wc := (WD0 cI cC cZ)) C0 hP hD hS [] rfl (by decide) (c_X6_told l D cI cC cZ  H.size  r13 r15 p2 r17 hc16) kw_719 kw_717 kw_718 kw_2 (by decide +kernel) (by decide) rfl hl.1 rfl (Nat.le_of_ble_eq_true rfl) ⟨Nat.zero_le _, Nat.zero_le _⟩ dX6_chance_57) (fun H locs hP hS => ?_)
      cases h
      exact kret_i C0 hP hD hS rfl dX6_chance_60
    · have h := oc_f c2 h
      refine lv_bipush (v := (-2 : Int32)) hx hb dX6_chance_10 (by decide) ?_
      cases h
      exact kret_i C0 hP hD hS rfl dX6_chance_12
abbrev rm_X6_seed : Room := { frames := 0, cells := 0, slots := 0, locals := 0 }
noncomputable def f_X6_seed (X_theSeed : Int64) (p1 : Int64) : Option (Int64 × Int64) := some (X_theSeed, p1)
set_option maxHeartbeats 4000000 in
set_option maxRecDepth 100000 in
theorem c_X6_seed (l : Launch) (D : va_G) (cI cC cZ : ClassId) (a_X a_X_doings a_T a_T_letters a_F a_F_table a_F_spots a_F_points a_F_walls a_F_across a_F_bareLight a_N a_N_wants a_R a_R_wants a_P a_P_wants a_Q a_Q_wants a_A a_A_kinds a_A_numbers a_A_befores a_S a_S_points a_S_values a_S_were a_Z a_Z_served a_Z_sums : Nat) (sz : Nat) (X_filledSlots : Int32) (X_theSeed : Int64) (X_doings : Nat → Int32) (T_length : Int32) (T_letters : Nat → Int32) (F_glow : Int32) (F_spotCount : Int32) (F_pointCount : Int32) (F_wallCount : Int32) (F_table : Nat → Int32) (F_spots : Nat → Int32) (F_points : Nat → Int32) (F_walls : Nat → Int32) (F_across : Nat → Int32) (F_bareLight : Nat → Int32) (N_hung : Int32) (N_dead : Int32) (N_standing : Int32) (N_wants : Nat → Int32) (R_hung : Int32) (R_dead : Int32) (R_standing : Int32) (R_wants : Nat → Int32) (P_hung : Int32) (P_dead : Int32) (P_standing : Int32) (P_wants : Nat → Int32) (Q_hung : Int32) (Q_dead : Int32) (Q_standing : Int32) (Q_wants : Nat → Int32) (A_size : Int32) (A_kinds : Nat → Int32) (A_numbers : Nat → Int32) (A_befores : Nat → Int32) (S_size : Int32) (S_points : Nat → Int32) (S_values : Nat → Int32) (S_were : Nat → Int32) (Z_served : Nat → Int32) (Z_sums : Nat → Int32) (p1 : Int64) (rr : Int64) (u_X_theSeed : Int64) (hf : f_X6_seed X_theSeed p1 = some (rr, u_X_theSeed)) : kMet l yX6_seed cX6_seed 5 (some .long) rm_X6_seed D (kTY cI cC cZ) [.ref a_X, .long p1] (WD14 cI cC cZ a_X a_X_doings a_T a_T_letters a_F a_F_table a_F_spots a_F_points a_F_walls a_F_across a_F_bareLight a_N a_N_wants a_R a_R_wants a_P a_P_wants a_Q a_Q_wants a_A a_A_kinds a_A_numbers a_A_befores a_S a_S_points a_S_values a_S_were a_Z a_Z_served a_Z_sums X_filledSlots X_theSeed X_doings T_length T_letters F_glow F_spotCount F_pointCount F_wallCount F_table F_spots F_points F_walls F_across F_bareLight N_hung N_dead N_standing N_wants R_hung R_dead R_standing R_wants P_hung P_dead P_standing P_wants Q_hung Q_dead Q_standing Q_wants A_size A_kinds A_numbers A_befores S_size S_points S_values S_were Z_served Z_sums) sz (kQL D (kTY cI cC cZ) (va_A (WD14 cI cC cZ a_X a_X_doings a_T a_T_letters a_F a_F_table a_F_spots a_F_points a_F_walls a_F_across a_F_bareLight a_N a_N_wants a_R a_R_wants a_P a_P_wants a_Q a_Q_wants a_A a_A_kinds a_A_numbers a_A_befores a_S a_S_points a_S_values a_S_were a_Z a_Z_served a_Z_sums X_filledSlots X_theSeed X_doings T_length T_letters F_glow F_spotCount F_pointCount F_wallCount F_table F_spots F_points F_walls F_across F_bareLight N_hung N_dead N_standing N_wants R_hung R_dead R_standing R_wants P_hung P_dead P_standing P_wants Q_hung Q_dead Q_standing Q_wants A_size A_kinds A_numbers A_befores S_size S_points S_values S_were Z_served Z_sums) sz) rr (WD14 cI cC cZ a_X a_X_doings a_T a_T_letters a_F a_F_table a_F_spots a_F_points a_F_walls a_F_across a_F_bareLight a_N a_N_wants a_R a_R_wants a_P a_P_wants a_Q a_Q_wants a_A a_A_kinds a_A_numbers a_A_befores a_S a_S_points a_S_values a_S_were a_Z a_Z_served a_Z_sums X_filledSlots u_X_theSeed X_doings T_length T_letters F_glow F_spotCount F_pointCount F_wallCount F_table F_spots F_points F_walls F_across F_bareLight N_hung N_dead N_standing N_wants R_hung R_dead R_standing R_wants P_hung P_dead P_standing P_wants Q_hung Q_dead Q_standing Q_wants A_size A_kinds A_numbers A_befores S_size S_points S_values S_were Z_served Z_sums)) := by
  refine kEnter (lv := [(0, .ref a_X), (1, .long p1)]) (own := RX6) (by decide) rfl (Nat.le_of_ble_eq_true rfl) rfl ?_
  intro p e s m below meth c hsz C0 hP hD hS ls hl
  generalize (va_A (WD14 cI cC cZ a_X a_X_doings a_T a_T_letters a_F a_F_table a_F_spots a_F_points a_F_walls a_F_across a_F_bareLight a_N a_N_wants a_R a_R_wants a_P a_P_wants a_Q a_Q_wants a_A a_A_kinds a_A_numbers a_A_befores a_S a_S_points a_S_values a_S_were a_Z a_Z_served a_Z_sums X_filledSlots X_theSeed X_doings T_length T_letters F_glow F_spotCount F_pointCount F_wallCount F_table F_spots F_points F_walls F_across F_bareLight N_hung N_dead N_standing N_wants R_hung R_dead R_standing R_wants P_hung P_dead P_standing P_wants Q_hung Q_dead Q_standing Q_wants A_size A_kinds A_numbers A_befores S_size S_points S_values S_were Z_served Z_sums) sz) = A at C0 hD hS ⊢
  clear hsz hS
  obtain ⟨H, hHs⟩ : ∃ H : Heap, H = s.heap := ⟨_, rfl⟩
  have hS : va_S A s.heap H [] := by rw [hHs]; exact va_S.rf
  rw [← hHs] at hP ⊢
  obtain ⟨hx, hb, hr, hml, hown, hts, hK, hN, hA, hlocks, hF⟩ := id C0
  have h := hf
  unfold f_X6_seed at h
  refine lv_aload_n hx hb dX6_seed_0 rfl (lv_at hl 0 rfl) ?_
  refine va_get (D := D) (ci := 6) (v := .long X_theSeed) (C := RX6) (T := TX6) (N := 12) hx hb hts inlX6 hown hK hP 0 rfl rfl 11 (by decide) (hts _ kw_762) (fun _ h9 => h9) rfl dX6_seed_1 ?_
  refine lv_lstore_n (lv' := [(3, .long X_theSeed), (0, .ref a_X), (1, .long p1)]) hx hb dX6_seed_4 rfl hl (by decide) rfl (fun ls hl => ?_)
  refine lv_aload_n hx hb dX6_seed_5 rfl (lv_at hl 1 rfl) ?_
  refine lv_lload_n hx hb dX6_seed_6 rfl (lv_at hl 2 rfl) ?_
  refine va_put (D := D) (ci := 6) (v := .long p1) (ty := .long) (C := RX6) (T := TX6) (N := 12) hx hb hts inlX6 tyX6 tyX6_ok nmX6 hown hK hP hD hS 0 rfl rfl 11 (by decide) (hts _ kw_762) (fun _ h9 => h9) rfl (by decide +kernel) rfl rfl (Nat.le_of_ble_eq_true rfl) dX6_seed_7 (fun H locs hP hD hS => ?_)
  have hP : va_P D vwCl (WD14 cI cC cZ a_X a_X_doings a_T a_T_letters a_F a_F_table a_F_spots a_F_points a_F_walls a_F_across a_F_bareLight a_N a_N_wants a_R a_R_wants a_P a_P_wants a_Q a_Q_wants a_A a_A_kinds a_A_numbers a_A_befores a_S a_S_points a_S_values a_S_were a_Z a_Z_served a_Z_sums X_filledSlots p1 X_doings T_length T_letters F_glow F_spotCount F_pointCount F_wallCount F_table F_spots F_points F_walls F_across F_bareLight N_hung N_dead N_standing N_wants R_hung R_dead R_standing R_wants P_hung P_dead P_standing P_wants Q_hung Q_dead Q_standing Q_wants A_size A_kinds A_numbers A_befores S_size S_points S_values S_were Z_served Z_sums) H := hP
  have hD : va_D A (WD14 cI cC cZ a_X a_X_doings a_T a_T_letters a_F a_F_table a_F_spots a_F_points a_F_walls a_F_across a_F_bareLight a_N a_N_wants a_R a_R_wants a_P a_P_wants a_Q a_Q_wants a_A a_A_kinds a_A_numbers a_A_befores a_S a_S_points a_S_values a_S_were a_Z a_Z_served a_Z_sums X_filledSlots p1 X_doings T_length T_letters F_glow F_spotCount F_pointCount F_wallCount F_table F_spots F_points F_walls F_across F_bareLight N_hung N_dead N_standing N_wants R_hung R_dead R_standing R_wants P_hung P_dead P_standing P_wants Q_hung Q_dead Q_standing Q_wants A_size A_kinds A_numbers A_befores S_size S_points S_values S_were Z_served Z_sums) := hD
  refine lv_lload_n hx hb dX6_seed_10 rfl (lv_at hl 0 rfl) ?_
  cases h
  exact kret_l C0 hP hD hS dX6_seed_11
abbrev rm_X6_drawn : Room := { frames := 4, cells := 0, slots := 0, locals := 91 }
noncomputable def bk_X6_drawn_52 (k18 : Int64 → Int32 → Int32 → Option (Int32 × Int64)) (k52 : Int32 → Int32 → Option (Int32 × Int64)) (X_theSeed : Int64) (F_glow : Int32) (F_spotCount : Int32) (F_pointCount : Int32) (F_across : Nat → Int32) (F_bareLight : Nat → Int32) (N_hung : Int32) (N_dead : Int32) (N_standing : Int32) (p1 : Int32) (p3 : Int32) (p4 : Int32) (p2 : Int32) (p5 : Int32) : Option (Int32 × Int64) := if F_pointCount ≤ p5 then (nm_ (p3 + (1 : Int32)) (fun t2 => k18 X_theSeed p2 t2)) else ((f_X2_sumOf N_hung N_dead N_standing F_glow F_spotCount F_pointCount F_across F_bareLight p5).bind (fun r4 => if r4 < ((p4 >>> (((5 : Int32) * p5) &&& 31)) &&& (31 : Int32)) then (nm_ (p5 + (1 : Int32)) (fun t6 => k52 p2 t6)) else (nm_ (p2 + (1 : Int32)) (fun t7 => nm_ (p5 + (1 : Int32)) (fun t8 => k52 t7 t8)))))
set_option maxHeartbeats 4000000 in
set_option maxRecDepth 100000 in
theorem wk_X6_drawn_52 {p : Program} {l : Launch} {e : Env} {s : State} {m : MethodId} {args : Array Value} {below : List Frame} {meth : Method} {c : Code} {D : va_G} {cI cC cZ : ClassId} {A : Nat → Prop} {a_X a_X_doings a_T a_T_letters a_F a_F_table a_F_spots a_F_points a_F_walls a_F_across a_F_bareLight a_N a_N_wants a_R a_R_wants a_P a_P_wants a_Q a_Q_wants a_A a_A_kinds a_A_numbers a_A_befores a_S a_S_points a_S_values a_S_were a_Z a_Z_served a_Z_sums : Nat} {X_filledSlots : Int32} {X_theSeed : Int64} {X_doings : Nat → Int32} {T_length : Int32} {T_letters : Nat → Int32} {F_glow : Int32} {F_spotCount : Int32} {F_pointCount : Int32} {F_wallCount : Int32} {F_table : Nat → Int32} {F_spots : Nat → Int32} {F_points : Nat → Int32} {F_walls : Nat → Int32} {F_across : Nat → Int32} {F_bareLight : Nat → Int32} {N_hung : Int32} {N_dead : Int32} {N_standing : Int32} {N_wants : Nat → Int32} {R_hung : Int32} {R_dead : Int32} {R_standing : Int32} {R_wants : Nat → Int32} {P_hung : Int32} {P_dead : Int32} {P_standing : Int32} {P_wants : Nat → Int32} {Q_hung : Int32} {Q_dead : Int32} {Q_standing : Int32} {Q_wants : Nat → Int32} {A_size : Int32} {A_kinds : Nat → Int32} {A_numbers : Nat → Int32} {A_befores : Nat → Int32} {S_size : Int32} {S_points : Nat → Int32} {S_values : Nat → Int32} {S_were : Nat → Int32} {Z_served : Nat → Int32} {Z_sums : Nat → Int32} {p1 : Int32} {p3 : Int32} {p4 : Int32} {p2 : Int32} {p5 : Int32} {k18 : Int64 → Int32 → Int32 → Option (Int32 × Int64)} {k52 : Int32 → Int32 → Option (Int32 × Int64)} {rr : Int32} {u_X_theSeed : Int64} (C0 : kC p s m args meth c D (kTY cI cC cZ) cX6_drawn (some .int) 6 RX6 A) (hk18 : ∀ (X_theSeed_k : Int64) (p2_k : Int32) (p3_k : Int32), k18 X_theSeed_k p2_k p3_k = some (rr, u_X_theSeed) → ∀ (H : Heap) (locs : List Loc), va_P D vwCl (WD14 cI cC cZ a_X a_X_doings a_T a_T_letters a_F a_F_table a_F_spots a_F_points a_F_walls a_F_across a_F_bareLight a_N a_N_wants a_R a_R_wants a_P a_P_wants a_Q a_Q_wants a_A a_A_kinds a_A_numbers a_A_befores a_S a_S_points a_S_values a_S_were a_Z a_Z_served a_Z_sums X_filledSlots X_theSeed_k X_doings T_length T_letters F_glow F_spotCount F_pointCount F_wallCount F_table F_spots F_points F_walls F_across F_bareLight N_hung N_dead N_standing N_wants R_hung R_dead R_standing R_wants P_hung P_dead P_standing P_wants Q_hung Q_dead Q_standing Q_wants A_size A_kinds A_numbers A_befores S_size S_points S_values S_were Z_served Z_sums) H → va_D A (WD14 cI cC cZ a_X a_X_doings a_T a_T_letters a_F a_F_table a_F_spots a_F_points a_F_walls a_F_across a_F_bareLight a_N a_N_wants a_R a_R_wants a_P a_P_wants a_Q a_Q_wants a_A a_A_kinds a_A_numbers a_A_befores a_S a_S_points a_S_values a_S_were a_Z a_Z_served a_Z_sums X_filledSlots X_theSeed_k X_doings T_length T_letters F_glow F_spotCount F_pointCount F_wallCount F_table F_spots F_points F_walls F_across F_bareLight N_hung N_dead N_standing N_wants R_hung R_dead R_standing R_wants P_hung P_dead P_standing P_wants Q_hung Q_dead Q_standing Q_wants A_size A_kinds A_numbers A_befores S_size S_points S_values S_were Z_served Z_sums) → va_S A s.heap H locs → ∀ ls : Array Slot, lv_has ls 6 [(0, .ref a_X), (1, .int p1), (2, .int p2_k), (3, .int p3_k)] → W p l e rm_X6_drawn s m args below meth c H locs 0 0 (MQ below (kQI D (kTY cI cC cZ) A rr (WD14 cI cC cZ a_X a_X_doings a_T a_T_letters a_F a_F_table a_F_spots a_F_points a_F_walls a_F_across a_F_bareLight a_N a_N_wants a_R a_R_wants a_P a_P_wants a_Q a_Q_wants a_A a_A_kinds a_A_numbers a_A_befores a_S a_S_points a_S_values a_S_were a_Z a_Z_served a_Z_sums X_filledSlots u_X_theSeed X_doings T_length T_letters F_glow F_spotCount F_pointCount F_wallCount F_table F_spots F_points F_walls F_across F_bareLight N_hung N_dead N_standing N_wants R_hung R_dead R_standing R_wants P_hung P_dead P_standing P_wants Q_hung Q_dead Q_standing Q_wants A_size A_kinds A_numbers A_befores S_size S_points S_values S_were Z_served Z_sums)) args s 0 0 A) (F0 m 18 ls [])) (hk52 : ∀ (p2_k : Int32) (p5_k : Int32), k52 p2_k p5_k = some (rr, u_X_theSeed) → ∀ (H : Heap) (locs : List Loc), va_P D vwCl (WD14 cI cC cZ a_X a_X_doings a_T a_T_letters a_F a_F_table a_F_spots a_F_points a_F_walls a_F_across a_F_bareLight a_N a_N_wants a_R a_R_wants a_P a_P_wants a_Q a_Q_wants a_A a_A_kinds a_A_numbers a_A_befores a_S a_S_points a_S_values a_S_were a_Z a_Z_served a_Z_sums X_filledSlots X_theSeed X_doings T_length T_letters F_glow F_spotCount F_pointCount F_wallCount F_table F_spots F_points F_walls F_across F_bareLight N_hung N_dead N_standing N_wants R_hung R_dead R_standing R_wants P_hung P_dead P_standing P_wants Q_hung Q_dead Q_standing Q_wants A_size A_kinds A_numbers A_befores S_size S_points S_values S_were Z_served Z_sums) H → va_D A (WD14 cI cC cZ a_X a_X_doings a_T a_T_letters a_F a_F_table a_F_spots a_F_points a_F_walls a_F_across a_F_bareLight a_N a_N_wants a_R a_R_wants a_P a_P_wants a_Q a_Q_wants a_A a_A_kinds a_A_numbers a_A_befores a_S a_S_points a_S_values a_S_were a_Z a_Z_served a_Z_sums X_filledSlots X_theSeed X_doings T_length T_letters F_glow F_spotCount F_pointCount F_wallCount F_table F_spots F_points F_walls F_across F_bareLight N_hung N_dead N_standing N_wants R_hung R_dead R_standing R_wants P_hung P_dead P_standing P_wants Q_hung Q_dead Q_standing Q_wants A_size A_kinds A_numbers A_befores S_size S_points S_values S_were Z_served Z_sums) → va_S A s.heap H locs → ∀ ls : Array Slot, lv_has ls 6 [(0, .ref a_X), (1, .int p1), (2, .int p2_k), (3, .int p3), (4, .int p4), (5, .int p5_k)] → W p l e rm_X6_drawn s m args below meth c H locs 0 0 (MQ below (kQI D (kTY cI cC cZ) A rr (WD14 cI cC cZ a_X a_X_doings a_T a_T_letters a_F a_F_table a_F_spots a_F_points a_F_walls a_F_across a_F_bareLight a_N a_N_wants a_R a_R_wants a_P a_P_wants a_Q a_Q_wants a_A a_A_kinds a_A_numbers a_A_befores a_S a_S_points a_S_values a_S_were a_Z a_Z_served a_Z_sums X_filledSlots u_X_theSeed X_doings T_length T_letters F_glow F_spotCount F_pointCount F_wallCount F_table F_spots F_points F_walls F_across F_bareLight N_hung N_dead N_standing N_wants R_hung R_dead R_standing R_wants P_hung P_dead P_standing P_wants Q_hung Q_dead Q_standing Q_wants A_size A_kinds A_numbers A_befores S_size S_points S_values S_were Z_served Z_sums)) args s 0 0 A) (F0 m 52 ls [])) (h : bk_X6_drawn_52 k18 k52 X_theSeed F_glow F_spotCount F_pointCount F_across F_bareLight N_hung N_dead N_standing p1 p3 p4 p2 p5 = some (rr, u_X_theSeed)) {H : Heap} {locs : List Loc} (hP : va_P D vwCl (WD14 cI cC cZ a_X a_X_doings a_T a_T_letters a_F a_F_table a_F_spots a_F_points a_F_walls a_F_across a_F_bareLight a_N a_N_wants a_R a_R_wants a_P a_P_wants a_Q a_Q_wants a_A a_A_kinds a_A_numbers a_A_befores a_S a_S_points a_S_values a_S_were a_Z a_Z_served a_Z_sums X_filledSlots X_theSeed X_doings T_length T_letters F_glow F_spotCount F_pointCount F_wallCount F_table F_spots F_points F_walls F_across F_bareLight N_hung N_dead N_standing N_wants R_hung R_dead R_standing R_wants P_hung P_dead P_standing P_wants Q_hung Q_dead Q_standing Q_wants A_size A_kinds A_numbers A_befores S_size S_points S_values S_were Z_served Z_sums) H) (hD : va_D A (WD14 cI cC cZ a_X a_X_doings a_T a_T_letters a_F a_F_table a_F_spots a_F_points a_F_walls a_F_across a_F_bareLight a_N a_N_wants a_R a_R_wants a_P a_P_wants a_Q a_Q_wants a_A a_A_kinds a_A_numbers a_A_befores a_S a_S_points a_S_values a_S_were a_Z a_Z_served a_Z_sums X_filledSlots X_theSeed X_doings T_length T_letters F_glow F_spotCount F_pointCount F_wallCount F_table F_spots F_points F_walls F_across F_bareLight N_hung N_dead N_standing N_wants R_hung R_dead R_standing R_wants P_hung P_dead P_standing P_wants Q_hung Q_dead Q_standing Q_wants A_size A_kinds A_numbers A_befores S_size S_points S_values S_were Z_served Z_sums)) (hS : va_S A s.heap H locs) {ls : Array Slot} (hl : lv_has ls 6 [(0, .ref a_X), (1, .int p1), (2, .int p2), (3, .int p3), (4, .int p4), (5, .int p5)]) : W p l e rm_X6_drawn s m args below meth c H locs 0 0 (MQ below (kQI D (kTY cI cC cZ) A rr (WD14 cI cC cZ a_X a_X_doings a_T a_T_letters a_F a_F_table a_F_spots a_F_points a_F_walls a_F_across a_F_bareLight a_N a_N_wants a_R a_R_wants a_P a_P_wants a_Q a_Q_wants a_A a_A_kinds a_A_numbers a_A_befores a_S a_S_points a_S_values a_S_were a_Z a_Z_served a_Z_sums X_filledSlots u_X_theSeed X_doings T_length T_letters F_glow F_spotCount F_pointCount F_wallCount F_table F_spots F_points F_walls F_across F_bareLight N_hung N_dead N_standing N_wants R_hung R_dead R_standing R_wants P_hung P_dead P_standing P_wants Q_hung Q_dead Q_standing Q_wants A_size A_kinds A_numbers A_befores S_size S_points S_values S_were Z_served Z_sums)) args s 0 0 A) (F0 m 52 ls []) := by
  obtain ⟨hx, hb, hr, hml, hown, hts, hK, hN, hA, hlocks, hF⟩ := id C0
  unfold bk_X6_drawn_52 at h
  refine lv_iload hx hb dX6_drawn_52 (lv_at hl 5 rfl) ?_
  refine lv_aload_n hx hb dX6_drawn_54 rfl (lv_at hl 0 rfl) ?_
  refine va_get (D := D) (ci := 6) (v := .ref a_F) (C := RX6) (T := TX6) (N := 12) hx hb hts inlX6 hown hK hP 0 rfl rfl 1 (by decide) (hts _ kw_20) (fun _ h9 => h9) rfl dX6_drawn_55 ?_
  refine va_getN (D := D) (ci := 1) (v := .int F_pointCount) (C := RX1) (T := TX1) (N := 10) hx hb hts inlX1 hown hK hP 4 rfl rfl 8 (by decide) (va_Nw.use rfl (ks_f8 hN)) (fun _ h9 => h9) rfl dX6_drawn_58 ?_
  refine lv_icmp_ge (tgt := 95) hx hb dX6_drawn_61 (by decide) (fun c1 => ?_) (fun c1 => ?_)
  · have h := oc_t c1 h
    obtain ⟨t2, e_t2⟩ : ∃ y : Int32, y = p3 + (1 : Int32) := ⟨_, rfl⟩
    have h := oc_nm e_t2 h
    refine lv_iinc (v := t2) (lv' := [(3, .int t2), (0, .ref a_X), (1, .int p1), (2, .int p2), (4, .int p4), (5, .int p5)]) hx hb dX6_drawn_95 hl (k := 3) rfl (by rw [e_t2]; rfl) (by decide) rfl (fun ls hl => ?_)
    refine lv_goto (tgt := 18) hx hb dX6_drawn_98 (by decide) ?_
    exact hk18 _ _ _ h _ _ hP hD hS _ (lv_sub hl [1, 2, 3, 0] rfl)
  · have h := oc_f c1 h
    refine lv_aload_n hx hb dX6_drawn_64 rfl (lv_at hl 0 rfl) ?_
    refine va_get (D := D) (ci := 6) (v := .ref a_N) (C := RX6) (T := TX6) (N := 12) hx hb hts inlX6 hown hK hP 0 rfl rfl 2 (by decide) (hts _ kw_24) (fun _ h9 => h9) rfl dX6_drawn_65 ?_
    refine lv_iload hx hb dX6_drawn_68 (lv_at hl 5 rfl) ?_
    obtain ⟨r4, hc3, h⟩ := oc_bind h
    refine kro_i (wc := (WD6 cI cC cZ a_N a_N_wants a_F a_F_table a_F_spots a_F_points a_F_walls a_F_across a_F_bareLight N_hung N_dead N_standing N_wants F_glow F_spotCount F_pointCount F_wallCount F_table F_spots F_points F_walls F_across F_bareLight)) C0 hP hD hS [11, 12, 4, 5, 6, 7, 8, 9, 10] rfl (kVN (n := 1) (As := [.int p5]) (rest := []) (wc := (WD6 cI cC cZ a_N a_N_wants a_F a_F_table a_F_spots a_F_points a_F_walls a_F_across a_F_bareLight N_hung N_dead N_standing N_wants F_glow F_spotCount F_pointCount F_wallCount F_table F_spots F_points F_walls F_across F_bareLight)) (C := RX2) C0 hP hD hS [11, 12, 4, 5, 6, 7, 8, 9, 10] rfl (by decide) (c_X2_sumOf l D cI cC cZ a_N a_N_wants a_F a_F_table a_F_spots a_F_points a_F_walls a_F_across a_F_bareLight H.size N_hung N_dead N_standing N_wants F_glow F_spotCount F_pointCount F_wallCount F_table F_spots F_points F_walls F_across F_bareLight p5 r4 hc3) kw_309 (ks_m20 hN) kw_307 kw_308 kw_23 (by decide +kernel) (by decide) rfl rfl rfl hl.1 rfl (Nat.le_of_ble_eq_true rfl) ⟨Nat.zero_le _, Nat.zero_le _⟩ dX6_drawn_70) (fun H locs hP hS => ?_)
    refine lv_iload hx hb dX6_drawn_73 (lv_at hl 4 rfl) ?_
    refine lv_iconst (v := (5 : Int32)) hx hb dX6_drawn_75 (by decide) ?_
    refine lv_iload hx hb dX6_drawn_76 (lv_at hl 5 rfl) ?_
    refine lv_imul hx hb dX6_drawn_78 ?_
    refine lv_ishr hx hb dX6_drawn_79 ?_
    refine lv_bipush (v := (31 : Int32)) hx hb dX6_drawn_80 (by decide) ?_
    refine lv_iand hx hb dX6_drawn_82 ?_
    refine lv_icmp_lt (tgt := 89) hx hb dX6_drawn_83 (by decide) (fun c5 => ?_) (fun c5 => ?_)
    · have h := oc_t c5 h
      obtain ⟨t6, e_t6⟩ : ∃ y : Int32, y = p5 + (1 : Int32) := ⟨_, rfl⟩
      have h := oc_nm e_t6 h
      refine lv_iinc (v := t6) (lv' := [(5, .int t6), (0, .ref a_X), (1, .int p1), (2, .int p2), (3, .int p3), (4, .int p4)]) hx hb dX6_drawn_89 hl (k := 5) rfl (by rw [e_t6]; rfl) (by decide) rfl (fun ls hl => ?_)
      refine lv_goto (tgt := 52) hx hb dX6_drawn_92 (by decide) ?_
      exact hk52 _ _ h _ _ hP hD hS _ (lv_sub hl [1, 2, 3, 4, 5, 0] rfl)
    · have h := oc_f c5 h
      obtain ⟨t7, e_t7⟩ : ∃ y : Int32, y = p2 + (1 : Int32) := ⟨_, rfl⟩
      have h := oc_nm e_t7 h
      refine lv_iinc (v := t7) (lv' := [(2, .int t7), (0, .ref a_X), (1, .int p1), (3, .int p3), (4, .int p4), (5, .int p5)]) hx hb dX6_drawn_86 hl (k := 2) rfl (by rw [e_t7]; rfl) (by decide) rfl (fun ls hl => ?_)
      obtain ⟨t8, e_t8⟩ : ∃ y : Int32, y = p5 + (1 : Int32) := ⟨_, rfl⟩
      have h := oc_nm e_t8 h
      refine lv_iinc (v := t8) (lv' := [(5, .int t8), (2, .int t7), (0, .ref a_X), (1, .int p1), (3, .int p3), (4, .int p4)]) hx hb dX6_drawn_89 hl (k := 5) rfl (by rw [e_t8]; rfl) (by decide) rfl (fun ls hl => ?_)
      refine lv_goto (tgt := 52) hx hb dX6_drawn_92 (by decide) ?_
      exact hk52 _ _ h _ _ hP hD hS _ (lv_sub hl [2, 3, 1, 4, 5, 0] rfl)
noncomputable def lp_X6_drawn_52 (k18 : Int64 → Int32 → Int32 → Option (Int32 × Int64)) (X_theSeed : Int64) (F_glow : Int32) (F_spotCount : Int32) (F_pointCount : Int32) (F_across : Nat → Int32) (F_bareLight : Nat → Int32) (N_hung : Int32) (N_dead : Int32) (N_standing : Int32) (p1 : Int32) (p3 : Int32) (p4 : Int32) (n : Nat) : Int32 → Int32 → Option (Int32 × Int64) := Nat.rec (motive := fun _ => Int32 → Int32 → Option (Int32 × Int64)) (fun _ _ => none) (fun _ ih => bk_X6_drawn_52 k18 ih X_theSeed F_glow F_spotCount F_pointCount F_across F_bareLight N_hung N_dead N_standing p1 p3 p4) n
set_option maxHeartbeats 4000000 in
set_option maxRecDepth 100000 in
theorem wl_X6_drawn_52 {p : Program} {l : Launch} {e : Env} {s : State} {m : MethodId} {args : Array Value} {below : List Frame} {meth : Method} {c : Code} {D : va_G} {cI cC cZ : ClassId} {A : Nat → Prop} {a_X a_X_doings a_T a_T_letters a_F a_F_table a_F_spots a_F_points a_F_walls a_F_across a_F_bareLight a_N a_N_wants a_R a_R_wants a_P a_P_wants a_Q a_Q_wants a_A a_A_kinds a_A_numbers a_A_befores a_S a_S_points a_S_values a_S_were a_Z a_Z_served a_Z_sums : Nat} {X_filledSlots : Int32} {X_theSeed : Int64} {X_doings : Nat → Int32} {T_length : Int32} {T_letters : Nat → Int32} {F_glow : Int32} {F_spotCount : Int32} {F_pointCount : Int32} {F_wallCount : Int32} {F_table : Nat → Int32} {F_spots : Nat → Int32} {F_points : Nat → Int32} {F_walls : Nat → Int32} {F_across : Nat → Int32} {F_bareLight : Nat → Int32} {N_hung : Int32} {N_dead : Int32} {N_standing : Int32} {N_wants : Nat → Int32} {R_hung : Int32} {R_dead : Int32} {R_standing : Int32} {R_wants : Nat → Int32} {P_hung : Int32} {P_dead : Int32} {P_standing : Int32} {P_wants : Nat → Int32} {Q_hung : Int32} {Q_dead : Int32} {Q_standing : Int32} {Q_wants : Nat → Int32} {A_size : Int32} {A_kinds : Nat → Int32} {A_numbers : Nat → Int32} {A_befores : Nat → Int32} {S_size : Int32} {S_points : Nat → Int32} {S_values : Nat → Int32} {S_were : Nat → Int32} {Z_served : Nat → Int32} {Z_sums : Nat → Int32} {p1 : Int32} {p3 : Int32} {p4 : Int32} {k18 : Int64 → Int32 → Int32 → Option (Int32 × Int64)} {rr : Int32} {u_X_theSeed : Int64} (C0 : kC p s m args meth c D (kTY cI cC cZ) cX6_drawn (some .int) 6 RX6 A) (hk18 : ∀ (X_theSeed_k : Int64) (p2_k : Int32) (p3_k : Int32), k18 X_theSeed_k p2_k p3_k = some (rr, u_X_theSeed) → ∀ (H : Heap) (locs : List Loc), va_P D vwCl (WD14 cI cC cZ a_X a_X_doings a_T a_T_letters a_F a_F_table a_F_spots a_F_points a_F_walls a_F_across a_F_bareLight a_N a_N_wants a_R a_R_wants a_P a_P_wants a_Q a_Q_wants a_A a_A_kinds a_A_numbers a_A_befores a_S a_S_points a_S_values a_S_were a_Z a_Z_served a_Z_sums X_filledSlots X_theSeed_k X_doings T_length T_letters F_glow F_spotCount F_pointCount F_wallCount F_table F_spots F_points F_walls F_across F_bareLight N_hung N_dead N_standing N_wants R_hung R_dead R_standing R_wants P_hung P_dead P_standing P_wants Q_hung Q_dead Q_standing Q_wants A_size A_kinds A_numbers A_befores S_size S_points S_values S_were Z_served Z_sums) H → va_D A (WD14 cI cC cZ a_X a_X_doings a_T a_T_letters a_F a_F_table a_F_spots a_F_points a_F_walls a_F_across a_F_bareLight a_N a_N_wants a_R a_R_wants a_P a_P_wants a_Q a_Q_wants a_A a_A_kinds a_A_numbers a_A_befores a_S a_S_points a_S_values a_S_were a_Z a_Z_served a_Z_sums X_filledSlots X_theSeed_k X_doings T_length T_letters F_glow F_spotCount F_pointCount F_wallCount F_table F_spots F_points F_walls F_across F_bareLight N_hung N_dead N_standing N_wants R_hung R_dead R_standing R_wants P_hung P_dead P_standing P_wants Q_hung Q_dead Q_standing Q_wants A_size A_kinds A_numbers A_befores S_size S_points S_values S_were Z_served Z_sums) → va_S A s.heap H locs → ∀ ls : Array Slot, lv_has ls 6 [(0, .ref a_X), (1, .int p1), (2, .int p2_k), (3, .int p3_k)] → W p l e rm_X6_drawn s m args below meth c H locs 0 0 (MQ below (kQI D (kTY cI cC cZ) A rr (WD14 cI cC cZ a_X a_X_doings a_T a_T_letters a_F a_F_table a_F_spots a_F_points a_F_walls a_F_across a_F_bareLight a_N a_N_wants a_R a_R_wants a_P a_P_wants a_Q a_Q_wants a_A a_A_kinds a_A_numbers a_A_befores a_S a_S_points a_S_values a_S_were a_Z a_Z_served a_Z_sums X_filledSlots u_X_theSeed X_doings T_length T_letters F_glow F_spotCount F_pointCount F_wallCount F_table F_spots F_points F_walls F_across F_bareLight N_hung N_dead N_standing N_wants R_hung R_dead R_standing R_wants P_hung P_dead P_standing P_wants Q_hung Q_dead Q_standing Q_wants A_size A_kinds A_numbers A_befores S_size S_points S_values S_were Z_served Z_sums)) args s 0 0 A) (F0 m 18 ls [])) : ∀ (n : Nat) (p2 : Int32) (p5 : Int32), lp_X6_drawn_52 k18 X_theSeed F_glow F_spotCount F_pointCount F_across F_bareLight N_hung N_dead N_standing p1 p3 p4 n p2 p5 = some (rr, u_X_theSeed) → ∀ (H : Heap) (locs : List Loc), va_P D vwCl (WD14 cI cC cZ a_X a_X_doings a_T a_T_letters a_F a_F_table a_F_spots a_F_points a_F_walls a_F_across a_F_bareLight a_N a_N_wants a_R a_R_wants a_P a_P_wants a_Q a_Q_wants a_A a_A_kinds a_A_numbers a_A_befores a_S a_S_points a_S_values a_S_were a_Z a_Z_served a_Z_sums X_filledSlots X_theSeed X_doings T_length T_letters F_glow F_spotCount F_pointCount F_wallCount F_table F_spots F_points F_walls F_across F_bareLight N_hung N_dead N_standing N_wants R_hung R_dead R_standing R_wants P_hung P_dead P_standing P_wants Q_hung Q_dead Q_standing Q_wants A_size A_kinds A_numbers A_befores S_size S_points S_values S_were Z_served Z_sums) H → va_D A (WD14 cI cC cZ a_X a_X_doings a_T a_T_letters a_F a_F_table a_F_spots a_F_points a_F_walls a_F_across a_F_bareLight a_N a_N_wants a_R a_R_wants a_P a_P_wants a_Q a_Q_wants a_A a_A_kinds a_A_numbers a_A_befores a_S a_S_points a_S_values a_S_were a_Z a_Z_served a_Z_sums X_filledSlots X_theSeed X_doings T_length T_letters F_glow F_spotCount F_pointCount F_wallCount F_table F_spots F_points F_walls F_across F_bareLight N_hung N_dead N_standing N_wants R_hung R_dead R_standing R_wants P_hung P_dead P_standing P_wants Q_hung Q_dead Q_standing Q_wants A_size A_kinds A_numbers A_befores S_size S_points S_values S_were Z_served Z_sums) → va_S A s.heap H locs → ∀ ls : Array Slot, lv_has ls 6 [(0, .ref a_X), (1, .int p1), (2, .int p2), (3, .int p3), (4, .int p4), (5, .int p5)] → W p l e rm_X6_drawn s m args below meth c H locs 0 0 (MQ below (kQI D (kTY cI cC cZ) A rr (WD14 cI cC cZ a_X a_X_doings a_T a_T_letters a_F a_F_table a_F_spots a_F_points a_F_walls a_F_across a_F_bareLight a_N a_N_wants a_R a_R_wants a_P a_P_wants a_Q a_Q_wants a_A a_A_kinds a_A_numbers a_A_befores a_S a_S_points a_S_values a_S_were a_Z a_Z_served a_Z_sums X_filledSlots u_X_theSeed X_doings T_length T_letters F_glow F_spotCount F_pointCount F_wallCount F_table F_spots F_points F_walls F_across F_bareLight N_hung N_dead N_standing N_wants R_hung R_dead R_standing R_wants P_hung P_dead P_standing P_wants Q_hung Q_dead Q_standing Q_wants A_size A_kinds A_numbers A_befores S_size S_points S_values S_were Z_served Z_sums)) args s 0 0 A) (F0 m 52 ls []) := by
  intro n
  induction n with
  | zero => intro p2 p5 h; cases (show (none : Option (Int32 × Int64)) = some _ from h)
  | succ n ih =>
    intro p2 p5 h H locs hP hD hS ls hl
    exact wk_X6_drawn_52 C0 hk18 (fun p2 p5 h H locs hP hD hS ls hl => ih p2 p5 h H locs hP hD hS ls hl) (show bk_X6_drawn_52 k18 (lp_X6_drawn_52 k18 X_theSeed F_glow F_spotCount F_pointCount F_across F_bareLight N_hung N_dead N_standing p1 p3 p4 n) X_theSeed F_glow F_spotCount F_pointCount F_across F_bareLight N_hung N_dead N_standing p1 p3 p4 p2 p5 = some _ from h) hP hD hS hl
noncomputable def bk_X6_drawn_18 (k18 : Int64 → Int32 → Int32 → Option (Int32 × Int64)) (F_glow : Int32) (F_spotCount : Int32) (F_pointCount : Int32) (F_across : Nat → Int32) (F_bareLight : Nat → Int32) (N_hung : Int32) (N_dead : Int32) (N_standing : Int32) (p1 : Int32) (X_theSeed : Int64) (p2 : Int32) (p3 : Int32) : Option (Int32 × Int64) := if p1 ≤ p3 then (some (p2, X_theSeed)) else (nm_ ((X_theSeed * (6364136223846793005 : Int64)) + (1442695040888963407 : Int64)) (fun t2 => nm_ (Int64.toInt32 ((Int64.toUInt64 t2 >>> ((Int32.toInt64 (33 : Int32)).toUInt64 &&& Int64.toUInt64 63)).toInt64)) (fun t3 => lp_X6_drawn_52 k18 t2 F_glow F_spotCount F_pointCount F_across F_bareLight N_hung N_dead N_standing p1 p3 t3 1000 p2 (0 : Int32))))
set_option maxHeartbeats 4000000 in
set_option maxRecDepth 100000 in
theorem wk_X6_drawn_18 {p : Program} {l : Launch} {e : Env} {s : State} {m : MethodId} {args : Array Value} {below : List Frame} {meth : Method} {c : Code} {D : va_G} {cI cC cZ : ClassId} {A : Nat → Prop} {a_X a_X_doings a_T a_T_letters a_F a_F_table a_F_spots a_F_points a_F_walls a_F_across a_F_bareLight a_N a_N_wants a_R a_R_wants a_P a_P_wants a_Q a_Q_wants a_A a_A_kinds a_A_numbers a_A_befores a_S a_S_points a_S_values a_S_were a_Z a_Z_served a_Z_sums : Nat} {X_filledSlots : Int32} {X_theSeed : Int64} {X_doings : Nat → Int32} {T_length : Int32} {T_letters : Nat → Int32} {F_glow : Int32} {F_spotCount : Int32} {F_pointCount : Int32} {F_wallCount : Int32} {F_table : Nat → Int32} {F_spots : Nat → Int32} {F_points : Nat → Int32} {F_walls : Nat → Int32} {F_across : Nat → Int32} {F_bareLight : Nat → Int32} {N_hung : Int32} {N_dead : Int32} {N_standing : Int32} {N_wants : Nat → Int32} {R_hung : Int32} {R_dead : Int32} {R_standing : Int32} {R_wants : Nat → Int32} {P_hung : Int32} {P_dead : Int32} {P_standing : Int32} {P_wants : Nat → Int32} {Q_hung : Int32} {Q_dead : Int32} {Q_standing : Int32} {Q_wants : Nat → Int32} {A_size : Int32} {A_kinds : Nat → Int32} {A_numbers : Nat → Int32} {A_befores : Nat → Int32} {S_size : Int32} {S_points : Nat → Int32} {S_values : Nat → Int32} {S_were : Nat → Int32} {Z_served : Nat → Int32} {Z_sums : Nat → Int32} {p1 : Int32} {p2 : Int32} {p3 : Int32} {k18 : Int64 → Int32 → Int32 → Option (Int32 × Int64)} {rr : Int32} {u_X_theSeed : Int64} (C0 : kC p s m args meth c D (kTY cI cC cZ) cX6_drawn (some .int) 6 RX6 A) (hk18 : ∀ (X_theSeed_k : Int64) (p2_k : Int32) (p3_k : Int32), k18 X_theSeed_k p2_k p3_k = some (rr, u_X_theSeed) → ∀ (H : Heap) (locs : List Loc), va_P D vwCl (WD14 cI cC cZ a_X a_X_doings a_T a_T_letters a_F a_F_table a_F_spots a_F_points a_F_walls a_F_across a_F_bareLight a_N a_N_wants a_R a_R_wants a_P a_P_wants a_Q a_Q_wants a_A a_A_kinds a_A_numbers a_A_befores a_S a_S_points a_S_values a_S_were a_Z a_Z_served a_Z_sums X_filledSlots X_theSeed_k X_doings T_length T_letters F_glow F_spotCount F_pointCount F_wallCount F_table F_spots F_points F_walls F_across F_bareLight N_hung N_dead N_standing N_wants R_hung R_dead R_standing R_wants P_hung P_dead P_standing P_wants Q_hung Q_dead Q_standing Q_wants A_size A_kinds A_numbers A_befores S_size S_points S_values S_were Z_served Z_sums) H → va_D A (WD14 cI cC cZ a_X a_X_doings a_T a_T_letters a_F a_F_table a_F_spots a_F_points a_F_walls a_F_across a_F_bareLight a_N a_N_wants a_R a_R_wants a_P a_P_wants a_Q a_Q_wants a_A a_A_kinds a_A_numbers a_A_befores a_S a_S_points a_S_values a_S_were a_Z a_Z_served a_Z_sums X_filledSlots X_theSeed_k X_doings T_length T_letters F_glow F_spotCount F_pointCount F_wallCount F_table F_spots F_points F_walls F_across F_bareLight N_hung N_dead N_standing N_wants R_hung R_dead R_standing R_wants P_hung P_dead P_standing P_wants Q_hung Q_dead Q_standing Q_wants A_size A_kinds A_numbers A_befores S_size S_points S_values S_were Z_served Z_sums) → va_S A s.heap H locs → ∀ ls : Array Slot, lv_has ls 6 [(0, .ref a_X), (1, .int p1), (2, .int p2_k), (3, .int p3_k)] → W p l e rm_X6_drawn s m args below meth c H locs 0 0 (MQ below (kQI D (kTY cI cC cZ) A rr (WD14 cI cC cZ a_X a_X_doings a_T a_T_letters a_F a_F_table a_F_spots a_F_points a_F_walls a_F_across a_F_bareLight a_N a_N_wants a_R a_R_wants a_P a_P_wants a_Q a_Q_wants a_A a_A_kinds a_A_numbers a_A_befores a_S a_S_points a_S_values a_S_were a_Z a_Z_served a_Z_sums X_filledSlots u_X_theSeed X_doings T_length T_letters F_glow F_spotCount F_pointCount F_wallCount F_table F_spots F_points F_walls F_across F_bareLight N_hung N_dead N_standing N_wants R_hung R_dead R_standing R_wants P_hung P_dead P_standing P_wants Q_hung Q_dead Q_standing Q_wants A_size A_kinds A_numbers A_befores S_size S_points S_values S_were Z_served Z_sums)) args s 0 0 A) (F0 m 18 ls [])) (h : bk_X6_drawn_18 k18 F_glow F_spotCount F_pointCount F_across F_bareLight N_hung N_dead N_standing p1 X_theSeed p2 p3 = some (rr, u_X_theSeed)) {H : Heap} {locs : List Loc} (hP : va_P D vwCl (WD14 cI cC cZ a_X a_X_doings a_T a_T_letters a_F a_F_table a_F_spots a_F_points a_F_walls a_F_across a_F_bareLight a_N a_N_wants a_R a_R_wants a_P a_P_wants a_Q a_Q_wants a_A a_A_kinds a_A_numbers a_A_befores a_S a_S_points a_S_values a_S_were a_Z a_Z_served a_Z_sums X_filledSlots X_theSeed X_doings T_length T_letters F_glow F_spotCount F_pointCount F_wallCount F_table F_spots F_points F_walls F_across F_bareLight N_hung N_dead N_standing N_wants R_hung R_dead R_standing R_wants P_hung P_dead P_standing P_wants Q_hung Q_dead Q_standing Q_wants A_size A_kinds A_numbers A_befores S_size S_points S_values S_were Z_served Z_sums) H) (hD : va_D A (WD14 cI cC cZ a_X a_X_doings a_T a_T_letters a_F a_F_table a_F_spots a_F_points a_F_walls a_F_across a_F_bareLight a_N a_N_wants a_R a_R_wants a_P a_P_wants a_Q a_Q_wants a_A a_A_kinds a_A_numbers a_A_befores a_S a_S_points a_S_values a_S_were a_Z a_Z_served a_Z_sums X_filledSlots X_theSeed X_doings T_length T_letters F_glow F_spotCount F_pointCount F_wallCount F_table F_spots F_points F_walls F_across F_bareLight N_hung N_dead N_standing N_wants R_hung R_dead R_standing R_wants P_hung P_dead P_standing P_wants Q_hung Q_dead Q_standing Q_wants A_size A_kinds A_numbers A_befores S_size S_points S_values S_were Z_served Z_sums)) (hS : va_S A s.heap H locs) {ls : Array Slot} (hl : lv_has ls 6 [(0, .ref a_X), (1, .int p1), (2, .int p2), (3, .int p3)]) : W p l e rm_X6_drawn s m args below meth c H locs 0 0 (MQ below (kQI D (kTY cI cC cZ) A rr (WD14 cI cC cZ a_X a_X_doings a_T a_T_letters a_F a_F_table a_F_spots a_F_points a_F_walls a_F_across a_F_bareLight a_N a_N_wants a_R a_R_wants a_P a_P_wants a_Q a_Q_wants a_A a_A_kinds a_A_numbers a_A_befores a_S a_S_points a_S_values a_S_were a_Z a_Z_served a_Z_sums X_filledSlots u_X_theSeed X_doings T_length T_letters F_glow F_spotCount F_pointCount F_wallCount F_table F_spots F_points F_walls F_across F_bareLight N_hung N_dead N_standing N_wants R_hung R_dead R_standing R_wants P_hung P_dead P_standing P_wants Q_hung Q_dead Q_standing Q_wants A_size A_kinds A_numbers A_befores S_size S_points S_values S_were Z_served Z_sums)) args s 0 0 A) (F0 m 18 ls []) := by
  obtain ⟨hx, hb, hr, hml, hown, hts, hK, hN, hA, hlocks, hF⟩ := id C0
  unfold bk_X6_drawn_18 at h
  refine lv_iload_n hx hb dX6_drawn_18 rfl (lv_at hl 3 rfl) ?_
  refine lv_iload_n hx hb dX6_drawn_19 rfl (lv_at hl 1 rfl) ?_
  refine lv_icmp_ge (tgt := 101) hx hb dX6_drawn_20 (by decide) (fun c1 => ?_) (fun c1 => ?_)
  · have h := oc_t c1 h
    refine lv_iload_n hx hb dX6_drawn_101 rfl (lv_at hl 2 rfl) ?_
    cases h
    exact kret_i C0 hP hD hS rfl dX6_drawn_102
  · have h := oc_f c1 h
    refine lv_aload_n hx hb dX6_drawn_23 rfl (lv_at hl 0 rfl) ?_
    refine lv_aload_n hx hb dX6_drawn_24 rfl (lv_at hl 0 rfl) ?_
    refine va_get (D := D) (ci := 6) (v := .long X_theSeed) (C := RX6) (T := TX6) (N := 12) hx hb hts inlX6 hown hK hP 0 rfl rfl 11 (by decide) (hts _ kw_762) (fun _ h9 => h9) rfl dX6_drawn_25 ?_
    refine lv_ldc2 (v := (6364136223846793005 : Int64)) hx hb hown (hts _ kw_772) dX6_drawn_28 ?_
    refine lv_lmul hx hb dX6_drawn_31 ?_
    refine lv_ldc2 (v := (1442695040888963407 : Int64)) hx hb hown (hts _ kw_773) dX6_drawn_32 ?_
    refine lv_ladd hx hb dX6_drawn_35 ?_
    refine lv_topl (fun t2 e_t2 => ?_)
    have h := oc_nm e_t2 h
    refine va_put (D := D) (ci := 6) (v := .long t2) (ty := .long) (C := RX6) (T := TX6) (N := 12) hx hb hts inlX6 tyX6 tyX6_ok nmX6 hown hK hP hD hS 0 rfl rfl 11 (by decide) (hts _ kw_762) (fun _ h9 => h9) rfl (by decide +kernel) rfl rfl (Nat.le_of_ble_eq_true rfl) dX6_drawn_36 (fun H locs hP hD hS => ?_)
    have hP : va_P D vwCl (WD14 cI cC cZ a_X a_X_doings a_T a_T_letters a_F a_F_table a_F_spots a_F_points a_F_walls a_F_across a_F_bareLight a_N a_N_wants a_R a_R_wants a_P a_P_wants a_Q a_Q_wants a_A a_A_kinds a_A_numbers a_A_befores a_S a_S_points a_S_values a_S_were a_Z a_Z_served a_Z_sums X_filledSlots t2 X_doings T_length T_letters F_glow F_spotCount F_pointCount F_wallCount F_table F_spots F_points F_walls F_across F_bareLight N_hung N_dead N_standing N_wants R_hung R_dead R_standing R_wants P_hung P_dead P_standing P_wants Q_hung Q_dead Q_standing Q_wants A_size A_kinds A_numbers A_befores S_size S_points S_values S_were Z_served Z_sums) H := hP
    have hD : va_D A (WD14 cI cC cZ a_X a_X_doings a_T a_T_letters a_F a_F_table a_F_spots a_F_points a_F_walls a_F_across a_F_bareLight a_N a_N_wants a_R a_R_wants a_P a_P_wants a_Q a_Q_wants a_A a_A_kinds a_A_numbers a_A_befores a_S a_S_points a_S_values a_S_were a_Z a_Z_served a_Z_sums X_filledSlots t2 X_doings T_length T_letters F_glow F_spotCount F_pointCount F_wallCount F_table F_spots F_points F_walls F_across F_bareLight N_hung N_dead N_standing N_wants R_hung R_dead R_standing R_wants P_hung P_dead P_standing P_wants Q_hung Q_dead Q_standing Q_wants A_size A_kinds A_numbers A_befores S_size S_points S_values S_were Z_served Z_sums) := hD
    refine lv_aload_n hx hb dX6_drawn_39 rfl (lv_at hl 0 rfl) ?_
    refine va_get (D := D) (ci := 6) (v := .long t2) (C := RX6) (T := TX6) (N := 12) hx hb hts inlX6 hown hK hP 0 rfl rfl 11 (by decide) (hts _ kw_762) (fun _ h9 => h9) rfl dX6_drawn_40 ?_
    refine lv_bipush (v := (33 : Int32)) hx hb dX6_drawn_43 (by decide) ?_
    refine lv_lushr hx hb dX6_drawn_45 rfl ?_
    refine lv_l2i hx hb dX6_drawn_46 rfl ?_
    refine lv_topi (fun t3 e_t3 => ?_)
    have h := oc_nm e_t3 h
    refine lv_istore (lv' := [(4, .int t3), (0, .ref a_X), (1, .int p1), (2, .int p2), (3, .int p3)]) hx hb dX6_drawn_47 hl (by decide) rfl (fun ls hl => ?_)
    refine lv_iconst (v := (0 : Int32)) hx hb dX6_drawn_49 (by decide) ?_
    refine lv_istore (lv' := [(5, .int (0 : Int32)), (4, .int t3), (0, .ref a_X), (1, .int p1), (2, .int p2), (3, .int p3)]) hx hb dX6_drawn_50 hl (by decide) rfl (fun ls hl => ?_)
    exact wl_X6_drawn_52 C0 hk18 _ _ _ h _ _ hP hD hS _ (lv_sub hl [2, 3, 4, 5, 1, 0] rfl)
noncomputable def lp_X6_drawn_18  (F_glow : Int32) (F_spotCount : Int32) (F_pointCount : Int32) (F_across : Nat → Int32) (F_bareLight : Nat → Int32) (N_hung : Int32) (N_dead : Int32) (N_standing : Int32) (p1 : Int32) (n : Nat) : Int64 → Int32 → Int32 → Option (Int32 × Int64) := Nat.rec (motive := fun _ => Int64 → Int32 → Int32 → Option (Int32 × Int64)) (fun _ _ _ => none) (fun _ ih => bk_X6_drawn_18  ih F_glow F_spotCount F_pointCount F_across F_bareLight N_hung N_dead N_standing p1) n
set_option maxHeartbeats 4000000 in
set_option maxRecDepth 100000 in
theorem wl_X6_drawn_18 {p : Program} {l : Launch} {e : Env} {s : State} {m : MethodId} {args : Array Value} {below : List Frame} {meth : Method} {c : Code} {D : va_G} {cI cC cZ : ClassId} {A : Nat → Prop} {a_X a_X_doings a_T a_T_letters a_F a_F_table a_F_spots a_F_points a_F_walls a_F_across a_F_bareLight a_N a_N_wants a_R a_R_wants a_P a_P_wants a_Q a_Q_wants a_A a_A_kinds a_A_numbers a_A_befores a_S a_S_points a_S_values a_S_were a_Z a_Z_served a_Z_sums : Nat} {X_filledSlots : Int32} {X_doings : Nat → Int32} {T_length : Int32} {T_letters : Nat → Int32} {F_glow : Int32} {F_spotCount : Int32} {F_pointCount : Int32} {F_wallCount : Int32} {F_table : Nat → Int32} {F_spots : Nat → Int32} {F_points : Nat → Int32} {F_walls : Nat → Int32} {F_across : Nat → Int32} {F_bareLight : Nat → Int32} {N_hung : Int32} {N_dead : Int32} {N_standing : Int32} {N_wants : Nat → Int32} {R_hung : Int32} {R_dead : Int32} {R_standing : Int32} {R_wants : Nat → Int32} {P_hung : Int32} {P_dead : Int32} {P_standing : Int32} {P_wants : Nat → Int32} {Q_hung : Int32} {Q_dead : Int32} {Q_standing : Int32} {Q_wants : Nat → Int32} {A_size : Int32} {A_kinds : Nat → Int32} {A_numbers : Nat → Int32} {A_befores : Nat → Int32} {S_size : Int32} {S_points : Nat → Int32} {S_values : Nat → Int32} {S_were : Nat → Int32} {Z_served : Nat → Int32} {Z_sums : Nat → Int32} {p1 : Int32}  {rr : Int32} {u_X_theSeed : Int64} (C0 : kC p s m args meth c D (kTY cI cC cZ) cX6_drawn (some .int) 6 RX6 A)  : ∀ (n : Nat) (X_theSeed : Int64) (p2 : Int32) (p3 : Int32), lp_X6_drawn_18  F_glow F_spotCount F_pointCount F_across F_bareLight N_hung N_dead N_standing p1 n X_theSeed p2 p3 = some (rr, u_X_theSeed) → ∀ (H : Heap) (locs : List Loc), va_P D vwCl (WD14 cI cC cZ a_X a_X_doings a_T a_T_letters a_F a_F_table a_F_spots a_F_points a_F_walls a_F_across a_F_bareLight a_N a_N_wants a_R a_R_wants a_P a_P_wants a_Q a_Q_wants a_A a_A_kinds a_A_numbers a_A_befores a_S a_S_points a_S_values a_S_were a_Z a_Z_served a_Z_sums X_filledSlots X_theSeed X_doings T_length T_letters F_glow F_spotCount F_pointCount F_wallCount F_table F_spots F_points F_walls F_across F_bareLight N_hung N_dead N_standing N_wants R_hung R_dead R_standing R_wants P_hung P_dead P_standing P_wants Q_hung Q_dead Q_standing Q_wants A_size A_kinds A_numbers A_befores S_size S_points S_values S_were Z_served Z_sums) H → va_D A (WD14 cI cC cZ a_X a_X_doings a_T a_T_letters a_F a_F_table a_F_spots a_F_points a_F_walls a_F_across a_F_bareLight a_N a_N_wants a_R a_R_wants a_P a_P_wants a_Q a_Q_wants a_A a_A_kinds a_A_numbers a_A_befores a_S a_S_points a_S_values a_S_were a_Z a_Z_served a_Z_sums X_filledSlots X_theSeed X_doings T_length T_letters F_glow F_spotCount F_pointCount F_wallCount F_table F_spots F_points F_walls F_across F_bareLight N_hung N_dead N_standing N_wants R_hung R_dead R_standing R_wants P_hung P_dead P_standing P_wants Q_hung Q_dead Q_standing Q_wants A_size A_kinds A_numbers A_befores S_size S_points S_values S_were Z_served Z_sums) → va_S A s.heap H locs → ∀ ls : Array Slot, lv_has ls 6 [(0, .ref a_X), (1, .int p1), (2, .int p2), (3, .int p3)] → W p l e rm_X6_drawn s m args below meth c H locs 0 0 (MQ below (kQI D (kTY cI cC cZ) A rr (WD14 cI cC cZ a_X a_X_doings a_T a_T_letters a_F a_F_table a_F_spots a_F_points a_F_walls a_F_across a_F_bareLight a_N a_N_wants a_R a_R_wants a_P a_P_wants a_Q a_Q_wants a_A a_A_kinds a_A_numbers a_A_befores a_S a_S_points a_S_values a_S_were a_Z a_Z_served a_Z_sums X_filledSlots u_X_theSeed X_doings T_length T_letters F_glow F_spotCount F_pointCount F_wallCount F_table F_spots F_points F_walls F_across F_bareLight N_hung N_dead N_standing N_wants R_hung R_dead R_standing R_wants P_hung P_dead P_standing P_wants Q_hung Q_dead Q_standing Q_wants A_size A_kinds A_numbers A_befores S_size S_points S_values S_were Z_served Z_sums)) args s 0 0 A) (F0 m 18 ls []) := by
  intro n
  induction n with
  | zero => intro X_theSeed p2 p3 h; cases (show (none : Option (Int32 × Int64)) = some _ from h)
  | succ n ih =>
    intro X_theSeed p2 p3 h H locs hP hD hS ls hl
    exact wk_X6_drawn_18 C0  (fun X_theSeed p2 p3 h H locs hP hD hS ls hl => ih X_theSeed p2 p3 h H locs hP hD hS ls hl) (show bk_X6_drawn_18  (lp_X6_drawn_18  F_glow F_spotCount F_pointCount F_across F_bareLight N_hung N_dead N_standing p1 n) F_glow F_spotCount F_pointCount F_across F_bareLight N_hung N_dead N_standing p1 X_theSeed p2 p3 = some _ from h) hP hD hS hl
noncomputable def f_X6_drawn (X_theSeed : Int64) (F_glow : Int32) (F_spotCount : Int32) (F_pointCount : Int32) (F_across : Nat → Int32) (F_bareLight : Nat → Int32) (N_hung : Int32) (N_dead : Int32) (N_standing : Int32) (p1 : Int32) : Option (Int32 × Int64) := if p1 < (1 : Int32) then (some ((-2 : Int32), X_theSeed)) else (if p1 ≤ (20 : Int32) then (lp_X6_drawn_18  F_glow F_spotCount F_pointCount F_across F_bareLight N_hung N_dead N_standing p1 1000 X_theSeed (0 : Int32) (0 : Int32)) else (some ((-2 : Int32), X_theSeed)))
set_option maxHeartbeats 4000000 in
set_option maxRecDepth 100000 in
theorem c_X6_drawn (l : Launch) (D : va_G) (cI cC cZ : ClassId) (a_X a_X_doings a_T a_T_letters a_F a_F_table a_F_spots a_F_points a_F_walls a_F_across a_F_bareLight a_N a_N_wants a_R a_R_wants a_P a_P_wants a_Q a_Q_wants a_A a_A_kinds a_A_numbers a_A_befores a_S a_S_points a_S_values a_S_were a_Z a_Z_served a_Z_sums : Nat) (sz : Nat) (X_filledSlots : Int32) (X_theSeed : Int64) (X_doings : Nat → Int32) (T_length : Int32) (T_letters : Nat → Int32) (F_glow : Int32) (F_spotCount : Int32) (F_pointCount : Int32) (F_wallCount : Int32) (F_table : Nat → Int32) (F_spots : Nat → Int32) (F_points : Nat → Int32) (F_walls : Nat → Int32) (F_across : Nat → Int32) (F_bareLight : Nat → Int32) (N_hung : Int32) (N_dead : Int32) (N_standing : Int32) (N_wants : Nat → Int32) (R_hung : Int32) (R_dead : Int32) (R_standing : Int32) (R_wants : Nat → Int32) (P_hung : Int32) (P_dead : Int32) (P_standing : Int32) (P_wants : Nat → Int32) (Q_hung : Int32) (Q_dead : Int32) (Q_standing : Int32) (Q_wants : Nat → Int32) (A_size : Int32) (A_kinds : Nat → Int32) (A_numbers : Nat → Int32) (A_befores : Nat → Int32) (S_size : Int32) (S_points : Nat → Int32) (S_values : Nat → Int32) (S_were : Nat → Int32) (Z_served : Nat → Int32) (Z_sums : Nat → Int32) (p1 : Int32) (rr : Int32) (u_X_theSeed : Int64) (hf : f_X6_drawn X_theSeed F_glow F_spotCount F_pointCount F_across F_bareLight N_hung N_dead N_standing p1 = some (rr, u_X_theSeed)) : kMet l yX6_drawn cX6_drawn 6 (some .int) rm_X6_drawn D (kTY cI cC cZ) [.ref a_X, .int p1] (WD14 cI cC cZ a_X a_X_doings a_T a_T_letters a_F a_F_table a_F_spots a_F_points a_F_walls a_F_across a_F_bareLight a_N a_N_wants a_R a_R_wants a_P a_P_wants a_Q a_Q_wants a_A a_A_kinds a_A_numbers a_A_befores a_S a_S_points a_S_values a_S_were a_Z a_Z_served a_Z_sums X_filledSlots X_theSeed X_doings T_length T_letters F_glow F_spotCount F_pointCount F_wallCount F_table F_spots F_points F_walls F_across F_bareLight N_hung N_dead N_standing N_wants R_hung R_dead R_standing R_wants P_hung P_dead P_standing P_wants Q_hung Q_dead Q_standing Q_wants A_size A_kinds A_numbers A_befores S_size S_points S_values S_were Z_served Z_sums) sz (kQI D (kTY cI cC cZ) (va_A (WD14 cI cC cZ a_X a_X_doings a_T a_T_letters a_F a_F_table a_F_spots a_F_points a_F_walls a_F_across a_F_bareLight a_N a_N_wants a_R a_R_wants a_P a_P_wants a_Q a_Q_wants a_A a_A_kinds a_A_numbers a_A_befores a_S a_S_points a_S_values a_S_were a_Z a_Z_served a_Z_sums X_filledSlots X_theSeed X_doings T_length T_letters F_glow F_spotCount F_pointCount F_wallCount F_table F_spots F_points F_walls F_across F_bareLight N_hung N_dead N_standing N_wants R_hung R_dead R_standing R_wants P_hung P_dead P_standing P_wants Q_hung Q_dead Q_standing Q_wants A_size A_kinds A_numbers A_befores S_size S_points S_values S_were Z_served Z_sums) sz) rr (WD14 cI cC cZ a_X a_X_doings a_T a_T_letters a_F a_F_table a_F_spots a_F_points a_F_walls a_F_across a_F_bareLight a_N a_N_wants a_R a_R_wants a_P a_P_wants a_Q a_Q_wants a_A a_A_kinds a_A_numbers a_A_befores a_S a_S_points a_S_values a_S_were a_Z a_Z_served a_Z_sums X_filledSlots u_X_theSeed X_doings T_length T_letters F_glow F_spotCount F_pointCount F_wallCount F_table F_spots F_points F_walls F_across F_bareLight N_hung N_dead N_standing N_wants R_hung R_dead R_standing R_wants P_hung P_dead P_standing P_wants Q_hung Q_dead Q_standing Q_wants A_size A_kinds A_numbers A_befores S_size S_points S_values S_were Z_served Z_sums)) := by
  refine kEnter (lv := [(0, .ref a_X), (1, .int p1)]) (own := RX6) (by decide) rfl (Nat.le_of_ble_eq_true rfl) rfl ?_
  intro p e s m below meth c hsz C0 hP hD hS ls hl
  generalize (va_A (WD14 cI cC cZ a_X a_X_doings a_T a_T_letters a_F a_F_table a_F_spots a_F_points a_F_walls a_F_across a_F_bareLight a_N a_N_wants a_R a_R_wants a_P a_P_wants a_Q a_Q_wants a_A a_A_kinds a_A_numbers a_A_befores a_S a_S_points a_S_values a_S_were a_Z a_Z_served a_Z_sums X_filledSlots X_theSeed X_doings T_length T_letters F_glow F_spotCount F_pointCount F_wallCount F_table F_spots F_points F_walls F_across F_bareLight N_hung N_dead N_standing N_wants R_hung R_dead R_standing R_wants P_hung P_dead P_standing P_wants Q_hung Q_dead Q_standing Q_wants A_size A_kinds A_numbers A_befores S_size S_points S_values S_were Z_served Z_sums) sz) = A at C0 hD hS ⊢
  clear hsz hS
  obtain ⟨H, hHs⟩ : ∃ H : Heap, H = s.heap := ⟨_, rfl⟩
  have hS : va_S A s.heap H [] := by rw [hHs]; exact va_S.rf
  rw [← hHs] at hP ⊢
  obtain ⟨hx, hb, hr, hml, hown, hts, hK, hN, hA, hlocks, hF⟩ := id C0
  have h := hf
  unfold f_X6_drawn at h
  refine lv_iload_n hx hb dX6_drawn_0 rfl (lv_at hl 1 rfl) ?_
  refine lv_iconst (v := (1 : Int32)) hx hb dX6_drawn_1 (by decide) ?_
  refine lv_icmp_lt (tgt := 11) hx hb dX6_drawn_2 (by decide) (fun c1 => ?_) (fun c1 => ?_)
  · have h := oc_t c1 h
    refine lv_bipush (v := (-2 : Int32)) hx hb dX6_drawn_11 (by decide) ?_
    cases h
    exact kret_i C0 hP hD hS rfl dX6_drawn_13
  · have h := oc_f c1 h
    refine lv_iload_n hx hb dX6_drawn_5 rfl (lv_at hl 1 rfl) ?_
    refine lv_bipush (v := (20 : Int32)) hx hb dX6_drawn_6 (by decide) ?_
    refine lv_icmp_le (tgt := 14) hx hb dX6_drawn_8 (by decide) (fun c2 => ?_) (fun c2 => ?_)
    · have h := oc_t c2 h
      refine lv_iconst (v := (0 : Int32)) hx hb dX6_drawn_14 (by decide) ?_
      refine lv_istore_n (lv' := [(2, .int (0 : Int32)), (0, .ref a_X), (1, .int p1)]) hx hb dX6_drawn_15 rfl hl (by decide) rfl (fun ls hl => ?_)
      refine lv_iconst (v := (0 : Int32)) hx hb dX6_drawn_16 (by decide) ?_
      refine lv_istore_n (lv' := [(3, .int (0 : Int32)), (2, .int (0 : Int32)), (0, .ref a_X), (1, .int p1)]) hx hb dX6_drawn_17 rfl hl (by decide) rfl (fun ls hl => ?_)
      exact wl_X6_drawn_18 C0  _ _ _ _ h _ _ hP hD hS _ (lv_sub hl [2, 3, 1, 0] rfl)
    · have h := oc_f c2 h
      refine lv_bipush (v := (-2 : Int32)) hx hb dX6_drawn_11 (by decide) ?_
      cases h
      exact kret_i C0 hP hD hS rfl dX6_drawn_13
abbrev rm_X6_slotAt : Room := { frames := 0, cells := 0, slots := 0, locals := 0 }
noncomputable def f_X6_slotAt (a_P : Nat) (a_Q : Nat)  (p1 : Int32) : Option (Nat) := if p1 = 0 then (some a_P) else (some a_Q)
set_option maxHeartbeats 4000000 in
set_option maxRecDepth 100000 in
theorem c_X6_slotAt (l : Launch) (D : va_G) (cI cC cZ : ClassId) (a_X a_X_doings a_T a_T_letters a_F a_F_table a_F_spots a_F_points a_F_walls a_F_across a_F_bareLight a_N a_N_wants a_R a_R_wants a_P a_P_wants a_Q a_Q_wants a_A a_A_kinds a_A_numbers a_A_befores a_S a_S_points a_S_values a_S_were a_Z a_Z_served a_Z_sums : Nat) (sz : Nat) (X_filledSlots : Int32) (X_theSeed : Int64) (X_doings : Nat → Int32) (T_length : Int32) (T_letters : Nat → Int32) (F_glow : Int32) (F_spotCount : Int32) (F_pointCount : Int32) (F_wallCount : Int32) (F_table : Nat → Int32) (F_spots : Nat → Int32) (F_points : Nat → Int32) (F_walls : Nat → Int32) (F_across : Nat → Int32) (F_bareLight : Nat → Int32) (N_hung : Int32) (N_dead : Int32) (N_standing : Int32) (N_wants : Nat → Int32) (R_hung : Int32) (R_dead : Int32) (R_standing : Int32) (R_wants : Nat → Int32) (P_hung : Int32) (P_dead : Int32) (P_standing : Int32) (P_wants : Nat → Int32) (Q_hung : Int32) (Q_dead : Int32) (Q_standing : Int32) (Q_wants : Nat → Int32) (A_size : Int32) (A_kinds : Nat → Int32) (A_numbers : Nat → Int32) (A_befores : Nat → Int32) (S_size : Int32) (S_points : Nat → Int32) (S_values : Nat → Int32) (S_were : Nat → Int32) (Z_served : Nat → Int32) (Z_sums : Nat → Int32) (p1 : Int32) (rr : Nat) (hf : f_X6_slotAt a_P a_Q p1 = some rr) : kMet l yX6_slotAt cX6_slotAt 2 (some (.object "LampShares$Layout")) rm_X6_slotAt D (kTY cI cC cZ) [.ref a_X, .int p1] (WD14 cI cC cZ a_X a_X_doings a_T a_T_letters a_F a_F_table a_F_spots a_F_points a_F_walls a_F_across a_F_bareLight a_N a_N_wants a_R a_R_wants a_P a_P_wants a_Q a_Q_wants a_A a_A_kinds a_A_numbers a_A_befores a_S a_S_points a_S_values a_S_were a_Z a_Z_served a_Z_sums X_filledSlots X_theSeed X_doings T_length T_letters F_glow F_spotCount F_pointCount F_wallCount F_table F_spots F_points F_walls F_across F_bareLight N_hung N_dead N_standing N_wants R_hung R_dead R_standing R_wants P_hung P_dead P_standing P_wants Q_hung Q_dead Q_standing Q_wants A_size A_kinds A_numbers A_befores S_size S_points S_values S_were Z_served Z_sums) sz (kQR D (kTY cI cC cZ) (va_A (WD14 cI cC cZ a_X a_X_doings a_T a_T_letters a_F a_F_table a_F_spots a_F_points a_F_walls a_F_across a_F_bareLight a_N a_N_wants a_R a_R_wants a_P a_P_wants a_Q a_Q_wants a_A a_A_kinds a_A_numbers a_A_befores a_S a_S_points a_S_values a_S_were a_Z a_Z_served a_Z_sums X_filledSlots X_theSeed X_doings T_length T_letters F_glow F_spotCount F_pointCount F_wallCount F_table F_spots F_points F_walls F_across F_bareLight N_hung N_dead N_standing N_wants R_hung R_dead R_standing R_wants P_hung P_dead P_standing P_wants Q_hung Q_dead Q_standing Q_wants A_size A_kinds A_numbers A_befores S_size S_points S_values S_were Z_served Z_sums) sz) rr (WD14 cI cC cZ a_X a_X_doings a_T a_T_letters a_F a_F_table a_F_spots a_F_points a_F_walls a_F_across a_F_bareLight a_N a_N_wants a_R a_R_wants a_P a_P_wants a_Q a_Q_wants a_A a_A_kinds a_A_numbers a_A_befores a_S a_S_points a_S_values a_S_were a_Z a_Z_served a_Z_sums X_filledSlots X_theSeed X_doings T_length T_letters F_glow F_spotCount F_pointCount F_wallCount F_table F_spots F_points F_walls F_across F_bareLight N_hung N_dead N_standing N_wants R_hung R_dead R_standing R_wants P_hung P_dead P_standing P_wants Q_hung Q_dead Q_standing Q_wants A_size A_kinds A_numbers A_befores S_size S_points S_values S_were Z_served Z_sums)) := by
  refine kEnter (lv := [(0, .ref a_X), (1, .int p1)]) (own := RX6) (by decide) rfl (Nat.le_of_ble_eq_true rfl) rfl ?_
  intro p e s m below meth c hsz C0 hP hD hS ls hl
  generalize (va_A (WD14 cI cC cZ a_X a_X_doings a_T a_T_letters a_F a_F_table a_F_spots a_F_points a_F_walls a_F_across a_F_bareLight a_N a_N_wants a_R a_R_wants a_P a_P_wants a_Q a_Q_wants a_A a_A_kinds a_A_numbers a_A_befores a_S a_S_points a_S_values a_S_were a_Z a_Z_served a_Z_sums X_filledSlots X_theSeed X_doings T_length T_letters F_glow F_spotCount F_pointCount F_wallCount F_table F_spots F_points F_walls F_across F_bareLight N_hung N_dead N_standing N_wants R_hung R_dead R_standing R_wants P_hung P_dead P_standing P_wants Q_hung Q_dead Q_standing Q_wants A_size A_kinds A_numbers A_befores S_size S_points S_values S_were Z_served Z_sums) sz) = A at C0 hD hS ⊢
  clear hsz hS
  obtain ⟨H, hHs⟩ : ∃ H : Heap, H = s.heap := ⟨_, rfl⟩
  have hS : va_S A s.heap H [] := by rw [hHs]; exact va_S.rf
  rw [← hHs] at hP ⊢
  obtain ⟨hx, hb, hr, hml, hown, hts, hK, hN, hA, hlocks, hF⟩ := id C0
  have h := hf
  unfold f_X6_slotAt at h
  refine lv_iload_n hx hb dX6_slotAt_0 rfl (lv_at hl 1 rfl) ?_
  refine lv_if_ne (tgt := 11) hx hb dX6_slotAt_1 (by decide) (fun c1 => ?_) (fun c1 => ?_)
  · have h := oc_f c1 h
    refine lv_aload_n hx hb dX6_slotAt_11 rfl (lv_at hl 0 rfl) ?_
    refine va_get (D := D) (ci := 6) (v := .ref a_Q) (C := RX6) (T := TX6) (N := 12) hx hb hts inlX6 hown hK hP 0 rfl rfl 5 (by decide) (hts _ kw_27) (fun _ h9 => h9) rfl dX6_slotAt_12 ?_
    cases h
    exact kret_r C0 hP hD hS dX6_slotAt_15
  · have h := oc_t c1 h
    refine lv_aload_n hx hb dX6_slotAt_4 rfl (lv_at hl 0 rfl) ?_
    refine va_get (D := D) (ci := 6) (v := .ref a_P) (C := RX6) (T := TX6) (N := 12) hx hb hts inlX6 hown hK hP 0 rfl rfl 4 (by decide) (hts _ kw_26) (fun _ h9 => h9) rfl dX6_slotAt_5 ?_
    refine lv_goto (tgt := 15) hx hb dX6_slotAt_8 (by decide) ?_
    cases h
    exact kret_r C0 hP hD hS dX6_slotAt_15
abbrev rm_X6_keep : Room := { frames := 1, cells := 0, slots := 0, locals := 22 }
noncomputable def f_X6_keep (X_filledSlots : Int32) (N_hung : Int32) (N_dead : Int32) (N_standing : Int32) (N_wants : Nat → Int32) (P_hung : Int32) (P_dead : Int32) (P_standing : Int32) (P_wants : Nat → Int32) (Q_hung : Int32) (Q_dead : Int32) (Q_standing : Int32) (Q_wants : Nat → Int32) (p1 : Int32) : Option (Int32 × Int32 × Int32 × Int32 × Int32 × (Nat → Int32) × Int32 × Int32 × Int32 × (Nat → Int32)) := if p1 < 0 then (some ((-1 : Int32), X_filledSlots, P_hung, P_dead, P_standing, P_wants, Q_hung, Q_dead, Q_standing, Q_wants)) else (if p1 ≤ (1 : Int32) then (if p1 = 0 then ((f_X2_copyFrom P_hung P_dead P_standing P_wants N_hung N_dead N_standing N_wants).bind (fun z => un4 z (fun u6 u7 u8 u9 => nm_ (X_filledSlots ||| ((1 : Int32) <<< (p1 &&& 31))) (fun t10 => (f_J6_bitCount N_hung).bind (fun r12 => some (r12, t10, u6, u7, u8, u9, Q_hung, Q_dead, Q_standing, Q_wants)))))) else ((f_X2_copyFrom Q_hung Q_dead Q_standing Q_wants N_hung N_dead N_standing N_wants).bind (fun z => un4 z (fun u14 u15 u16 u17 => nm_ (X_filledSlots ||| ((1 : Int32) <<< (p1 &&& 31))) (fun t18 => (f_J6_bitCount N_hung).bind (fun r20 => some (r20, t18, P_hung, P_dead, P_standing, P_wants, u14, u15, u16, u17))))))) else (some ((-1 : Int32), X_filledSlots, P_hung, P_dead, P_standing, P_wants, Q_hung, Q_dead, Q_standing, Q_wants)))
set_option maxHeartbeats 4000000 in
set_option maxRecDepth 100000 in
theorem c_X6_keep (l : Launch) (D : va_G) (cI cC cZ : ClassId) (a_X a_X_doings a_T a_T_letters a_F a_F_table a_F_spots a_F_points a_F_walls a_F_across a_F_bareLight a_N a_N_wants a_R a_R_wants a_P a_P_wants a_Q a_Q_wants a_A a_A_kinds a_A_numbers a_A_befores a_S a_S_points a_S_values a_S_were a_Z a_Z_served a_Z_sums : Nat) (sz : Nat) (X_filledSlots : Int32) (X_theSeed : Int64) (X_doings : Nat → Int32) (T_length : Int32) (T_letters : Nat → Int32) (F_glow : Int32) (F_spotCount : Int32) (F_pointCount : Int32) (F_wallCount : Int32) (F_table : Nat → Int32) (F_spots : Nat → Int32) (F_points : Nat → Int32) (F_walls : Nat → Int32) (F_across : Nat → Int32) (F_bareLight : Nat → Int32) (N_hung : Int32) (N_dead : Int32) (N_standing : Int32) (N_wants : Nat → Int32) (R_hung : Int32) (R_dead : Int32) (R_standing : Int32) (R_wants : Nat → Int32) (P_hung : Int32) (P_dead : Int32) (P_standing : Int32) (P_wants : Nat → Int32) (Q_hung : Int32) (Q_dead : Int32) (Q_standing : Int32) (Q_wants : Nat → Int32) (A_size : Int32) (A_kinds : Nat → Int32) (A_numbers : Nat → Int32) (A_befores : Nat → Int32) (S_size : Int32) (S_points : Nat → Int32) (S_values : Nat → Int32) (S_were : Nat → Int32) (Z_served : Nat → Int32) (Z_sums : Nat → Int32) (p1 : Int32) (rr : Int32) (u_X_filledSlots : Int32) (u_P_hung : Int32) (u_P_dead : Int32) (u_P_standing : Int32) (u_P_wants : Nat → Int32) (u_Q_hung : Int32) (u_Q_dead : Int32) (u_Q_standing : Int32) (u_Q_wants : Nat → Int32) (hf : f_X6_keep X_filledSlots N_hung N_dead N_standing N_wants P_hung P_dead P_standing P_wants Q_hung Q_dead Q_standing Q_wants p1 = some (rr, u_X_filledSlots, u_P_hung, u_P_dead, u_P_standing, u_P_wants, u_Q_hung, u_Q_dead, u_Q_standing, u_Q_wants)) : kMet l yX6_keep cX6_keep 2 (some .int) rm_X6_keep D (kTY cI cC cZ) [.ref a_X, .int p1] (WD14 cI cC cZ a_X a_X_doings a_T a_T_letters a_F a_F_table a_F_spots a_F_points a_F_walls a_F_across a_F_bareLight a_N a_N_wants a_R a_R_wants a_P a_P_wants a_Q a_Q_wants a_A a_A_kinds a_A_numbers a_A_befores a_S a_S_points a_S_values a_S_were a_Z a_Z_served a_Z_sums X_filledSlots X_theSeed X_doings T_length T_letters F_glow F_spotCount F_pointCount F_wallCount F_table F_spots F_points F_walls F_across F_bareLight N_hung N_dead N_standing N_wants R_hung R_dead R_standing R_wants P_hung P_dead P_standing P_wants Q_hung Q_dead Q_standing Q_wants A_size A_kinds A_numbers A_befores S_size S_points S_values S_were Z_served Z_sums) sz (kQI D (kTY cI cC cZ) (va_A (WD14 cI cC cZ a_X a_X_doings a_T a_T_letters a_F a_F_table a_F_spots a_F_points a_F_walls a_F_across a_F_bareLight a_N a_N_wants a_R a_R_wants a_P a_P_wants a_Q a_Q_wants a_A a_A_kinds a_A_numbers a_A_befores a_S a_S_points a_S_values a_S_were a_Z a_Z_served a_Z_sums X_filledSlots X_theSeed X_doings T_length T_letters F_glow F_spotCount F_pointCount F_wallCount F_table F_spots F_points F_walls F_across F_bareLight N_hung N_dead N_standing N_wants R_hung R_dead R_standing R_wants P_hung P_dead P_standing P_wants Q_hung Q_dead Q_standing Q_wants A_size A_kinds A_numbers A_befores S_size S_points S_values S_were Z_served Z_sums) sz) rr (WD14 cI cC cZ a_X a_X_doings a_T a_T_letters a_F a_F_table a_F_spots a_F_points a_F_walls a_F_across a_F_bareLight a_N a_N_wants a_R a_R_wants a_P a_P_wants a_Q a_Q_wants a_A a_A_kinds a_A_numbers a_A_befores a_S a_S_points a_S_values a_S_were a_Z a_Z_served a_Z_sums u_X_filledSlots X_theSeed X_doings T_length T_letters F_glow F_spotCount F_pointCount F_wallCount F_table F_spots F_points F_walls F_across F_bareLight N_hung N_dead N_standing N_wants R_hung R_dead R_standing R_wants u_P_hung u_P_dead u_P_standing u_P_wants u_Q_hung u_Q_dead u_Q_standing u_Q_wants A_size A_kinds A_numbers A_befores S_size S_points S_values S_were Z_served Z_sums)) := by
  refine kEnter (lv := [(0, .ref a_X), (1, .int p1)]) (own := RX6) (by decide) rfl (Nat.le_of_ble_eq_true rfl) rfl ?_
  intro p e s m below meth c hsz C0 hP hD hS ls hl
  generalize (va_A (WD14 cI cC cZ a_X a_X_doings a_T a_T_letters a_F a_F_table a_F_spots a_F_points a_F_walls a_F_across a_F_bareLight a_N a_N_wants a_R a_R_wants a_P a_P_wants a_Q a_Q_wants a_A a_A_kinds a_A_numbers a_A_befores a_S a_S_points a_S_values a_S_were a_Z a_Z_served a_Z_sums X_filledSlots X_theSeed X_doings T_length T_letters F_glow F_spotCount F_pointCount F_wallCount F_table F_spots F_points F_walls F_across F_bareLight N_hung N_dead N_standing N_wants R_hung R_dead R_standing R_wants P_hung P_dead P_standing P_wants Q_hung Q_dead Q_standing Q_wants A_size A_kinds A_numbers A_befores S_size S_points S_values S_were Z_served Z_sums) sz) = A at C0 hD hS ⊢
  clear hsz hS
  obtain ⟨H, hHs⟩ : ∃ H : Heap, H = s.heap := ⟨_, rfl⟩
  have hS : va_S A s.heap H [] := by rw [hHs]; exact va_S.rf
  rw [← hHs] at hP ⊢
  obtain ⟨hx, hb, hr, hml, hown, hts, hK, hN, hA, hlocks, hF⟩ := id C0
  have h := hf
  unfold f_X6_keep at h
  refine lv_iload_n hx hb dX6_keep_0 rfl (lv_at hl 1 rfl) ?_
  refine lv_if_lt (tgt := 9) hx hb dX6_keep_1 (by decide) (fun c1 => ?_) (fun c1 => ?_)
  · have h := oc_t c1 h
    refine lv_iconst (v := (-1 : Int32)) hx hb dX6_keep_9 (by decide) ?_
    cases h
    exact kret_i C0 hP hD hS rfl dX6_keep_10
  · have h := oc_f c1 h
    refine lv_iload_n hx hb dX6_keep_4 rfl (lv_at hl 1 rfl) ?_
    refine lv_iconst (v := (1 : Int32)) hx hb dX6_keep_5 (by decide) ?_
    refine lv_icmp_le (tgt := 11) hx hb dX6_keep_6 (by decide) (fun c2 => ?_) (fun c2 => ?_)
    · have h := oc_t c2 h
      refine lv_aload_n hx hb dX6_keep_11 rfl (lv_at hl 0 rfl) ?_
      refine lv_iload_n hx hb dX6_keep_12 rfl (lv_at hl 1 rfl) ?_
      by_cases c4 : p1 = 0
      · have h := oc_t c4 h
        refine kro_r (wc := (WD14 cI cC cZ a_X a_X_doings a_T a_T_letters a_F a_F_table a_F_spots a_F_points a_F_walls a_F_across a_F_bareLight a_N a_N_wants a_R a_R_wants a_P a_P_wants a_Q a_Q_wants a_A a_A_kinds a_A_numbers a_A_befores a_S a_S_points a_S_values a_S_were a_Z a_Z_served a_Z_sums X_filledSlots X_theSeed X_doings T_length T_letters F_glow F_spotCount F_pointCount F_wallCount F_table F_spots F_points F_walls F_across F_bareLight N_hung N_dead N_standing N_wants R_hung R_dead R_standing R_wants P_hung P_dead P_standing P_wants Q_hung Q_dead Q_standing Q_wants A_size A_kinds A_numbers A_befores S_size S_points S_values S_were Z_served Z_sums)) C0 hP hD hS [0, 1, 2, 3, 4, 5, 6, 7, 8, 9, 10, 11, 12, 13, 14, 15, 16, 17, 18, 19, 20, 21, 22, 23, 24, 25, 26, 27, 28, 29] rfl (kV (n := 1) (As := [.int p1]) (rest := []) (wc := (WD14 cI cC cZ a_X a_X_doings a_T a_T_letters a_F a_F_table a_F_spots a_F_points a_F_walls a_F_across a_F_bareLight a_N a_N_wants a_R a_R_wants a_P a_P_wants a_Q a_Q_wants a_A a_A_kinds a_A_numbers a_A_befores a_S a_S_points a_S_values a_S_were a_Z a_Z_served a_Z_sums X_filledSlots X_theSeed X_doings T_length T_letters F_glow F_spotCount F_pointCount F_wallCount F_table F_spots F_points F_walls F_across F_bareLight N_hung N_dead N_standing N_wants R_hung R_dead R_standing R_wants P_hung P_dead P_standing P_wants Q_hung Q_dead Q_standing Q_wants A_size A_kinds A_numbers A_befores S_size S_points S_values S_were Z_served Z_sums)) (C := RX6) C0 hP hD hS [0, 1, 2, 3, 4, 5, 6, 7, 8, 9, 10, 11, 12, 13, 14, 15, 16, 17, 18, 19, 20, 21, 22, 23, 24, 25, 26, 27, 28, 29] rfl (by decide) (c_X6_slotAt l D cI cC cZ a_X a_X_doings a_T a_T_letters a_F a_F_table a_F_spots a_F_points a_F_walls a_F_across a_F_bareLight a_N a_N_wants a_R a_R_wants a_P a_P_wants a_Q a_Q_wants a_A a_A_kinds a_A_numbers a_A_befores a_S a_S_points a_S_values a_S_were a_Z a_Z_served a_Z_sums H.size X_filledSlots X_theSeed X_doings T_length T_letters F_glow F_spotCount F_pointCount F_wallCount F_table F_spots F_points F_walls F_across F_bareLight N_hung N_dead N_standing N_wants R_hung R_dead R_standing R_wants P_hung P_dead P_standing P_wants Q_hung Q_dead Q_standing Q_wants A_size A_kinds A_numbers A_befores S_size S_points S_values S_were Z_served Z_sums p1 a_P (by unfold f_X6_slotAt; rw [if_pos c4])) kw_788 kw_785 kw_786 kw_787 kw_2 (by decide +kernel) (by decide) rfl rfl rfl hl.1 rfl (Nat.le_of_ble_eq_true rfl) ⟨Nat.zero_le _, Nat.zero_le _⟩ dX6_keep_13) (fun H locs hP hS => ?_)
        refine lv_aload_n hx hb dX6_keep_16 rfl (lv_at hl 0 rfl) ?_
        refine va_get (D := D) (ci := 6) (v := .ref a_N) (C := RX6) (T := TX6) (N := 12) hx hb hts inlX6 hown hK hP 0 rfl rfl 2 (by decide) (hts _ kw_24) (fun _ h9 => h9) rfl dX6_keep_17 ?_
        obtain ⟨u6, u7, u8, u9, hc5, h⟩ := oc_b4 h
        refine kgo_v (wc := (WD7 cI cC cZ a_P a_P_wants a_F a_F_table a_F_spots a_F_points a_F_walls a_F_across a_F_bareLight a_N a_N_wants P_hung P_dead P_standing P_wants F_glow F_spotCount F_pointCount F_wallCount F_table F_spots F_points F_walls F_across F_bareLight N_hung N_dead N_standing N_wants)) (wc' := (WD7 cI cC cZ a_P a_P_wants a_F a_F_table a_F_spots a_F_points a_F_walls a_F_across a_F_bareLight a_N a_N_wants u6 u7 u8 u9 F_glow F_spotCount F_pointCount F_wallCount F_table F_spots F_points F_walls F_across F_bareLight N_hung N_dead N_standing N_wants)) (ws' := (WD14 cI cC cZ a_X a_X_doings a_T a_T_letters a_F a_F_table a_F_spots a_F_points a_F_walls a_F_across a_F_bareLight a_N a_N_wants a_R a_R_wants a_P a_P_wants a_Q a_Q_wants a_A a_A_kinds a_A_numbers a_A_befores a_S a_S_points a_S_values a_S_were a_Z a_Z_served a_Z_sums X_filledSlots X_theSeed X_doings T_length T_letters F_glow F_spotCount F_pointCount F_wallCount F_table F_spots F_points F_walls F_across F_bareLight N_hung N_dead N_standing N_wants R_hung R_dead R_standing R_wants u6 u7 u8 u9 Q_hung Q_dead Q_standing Q_wants A_size A_kinds A_numbers A_befores S_size S_points S_values S_were Z_served Z_sums)) C0 hP hD hS [15, 16, 4, 5, 6, 7, 8, 9, 10, 11, 12] [0, 1, 2, 3, 13, 14, 17, 18, 19, 20, 21, 22, 23, 24, 25, 26, 27, 28, 29] [0, 1, 2, 3, 21, 22, 23, 24, 25, 26, 27, 28, 29, 4, 5, 19, 20, 6, 7, 8, 9, 10, 11, 12, 13, 14, 15, 16, 17, 18] [(a_X, .inr (6, [.ref a_T, .ref a_F, .ref a_N, .ref a_R, .ref a_P, .ref a_Q, .ref a_A, .ref a_S, .ref a_Z, .ref a_X_doings, .int X_filledSlots, .long X_theSeed])), (a_X_doings, .inl (cI, 4, .inl X_doings)), (a_T, .inr (5, [.ref a_T_letters, .int T_length])), (a_T_letters, .inl (cC, 99, .inl T_letters)), (a_R, .inr (2, [.ref a_F, .ref a_R_wants, .int R_hung, .int R_dead, .int R_standing])), (a_R_wants, .inl (cI, 6, .inl R_wants)), (a_Q, .inr (2, [.ref a_F, .ref a_Q_wants, .int Q_hung, .int Q_dead, .int Q_standing])), (a_Q_wants, .inl (cI, 6, .inl Q_wants)), (a_A, .inr (0, [.ref a_A_kinds, .ref a_A_numbers, .ref a_A_befores, .int A_size])), (a_A_kinds, .inl (cI, 14, .inl A_kinds)), (a_A_numbers, .inl (cI, 14, .inl A_numbers)), (a_A_befores, .inl (cI, 14, .inl A_befores)), (a_S, .inr (3, [.ref a_S_points, .ref a_S_values, .ref a_S_were, .int S_size])), (a_S_points, .inl (cI, 6, .inl S_points)), (a_S_values, .inl (cI, 6, .inl S_values)), (a_S_were, .inl (cZ, 6, .inl S_were)), (a_Z, .inr (4, [.ref a_F, .ref a_Z_served, .ref a_Z_sums])), (a_Z_served, .inl (cI, 256, .inl Z_served)), (a_Z_sums, .inl (cI, 256, .inl Z_sums))] rfl rfl (by decide) (by decide) rfl (by decide) (kVN (n := 1) (As := [.ref a_N]) (rest := []) (wc := (WD7 cI cC cZ a_P a_P_wants a_F a_F_table a_F_spots a_F_points a_F_walls a_F_across a_F_bareLight a_N a_N_wants P_hung P_dead P_standing P_wants F_glow F_spotCount F_pointCount F_wallCount F_table F_spots F_points F_walls F_across F_bareLight N_hung N_dead N_standing N_wants)) (C := RX2) C0 hP hD hS [15, 16, 4, 5, 6, 7, 8, 9, 10, 11, 12] rfl (by decide) (c_X2_copyFrom l D cI cC cZ a_P a_P_wants a_F a_F_table a_F_spots a_F_points a_F_walls a_F_across a_F_bareLight a_N a_N_wants H.size P_hung P_dead P_standing P_wants F_glow F_spotCount F_pointCount F_wallCount F_table F_spots F_points F_walls F_across F_bareLight N_hung N_dead N_standing N_wants  u6 u7 u8 u9 hc5) kw_627 (ks_m45 hN) kw_625 kw_626 kw_23 (by decide +kernel) (by decide) rfl rfl rfl hl.1 rfl (Nat.le_of_ble_eq_true rfl) ⟨Nat.zero_le _, Nat.zero_le _⟩ dX6_keep_20) (fun H locs hP hD hS => ?_)
        refine lv_aload_n hx hb dX6_keep_23 rfl (lv_at hl 0 rfl) ?_
        refine lv_dup hx hb dX6_keep_24 rfl ?_
        refine va_get (D := D) (ci := 6) (v := .int X_filledSlots) (C := RX6) (T := TX6) (N := 12) hx hb hts inlX6 hown hK hP 0 rfl rfl 10 (by decide) (hts _ kw_202) (fun _ h9 => h9) rfl dX6_keep_25 ?_
        refine lv_iconst (v := (1 : Int32)) hx hb dX6_keep_28 (by decide) ?_
        refine lv_iload_n hx hb dX6_keep_29 rfl (lv_at hl 1 rfl) ?_
        refine lv_ishl hx hb dX6_keep_30 ?_
        refine lv_ior hx hb dX6_keep_31 ?_
        refine lv_topi (fun t10 e_t10 => ?_)
        have h := oc_nm e_t10 h
        refine va_put (D := D) (ci := 6) (v := .int t10) (ty := .int) (C := RX6) (T := TX6) (N := 12) hx hb hts inlX6 tyX6 tyX6_ok nmX6 hown hK hP hD hS 0 rfl rfl 10 (by decide) (hts _ kw_202) (fun _ h9 => h9) rfl (by decide +kernel) rfl rfl (Nat.le_of_ble_eq_true rfl) dX6_keep_32 (fun H locs hP hD hS => ?_)
        have hP : va_P D vwCl (WD14 cI cC cZ a_X a_X_doings a_T a_T_letters a_F a_F_table a_F_spots a_F_points a_F_walls a_F_across a_F_bareLight a_N a_N_wants a_R a_R_wants a_P a_P_wants a_Q a_Q_wants a_A a_A_kinds a_A_numbers a_A_befores a_S a_S_points a_S_values a_S_were a_Z a_Z_served a_Z_sums t10 X_theSeed X_doings T_length T_letters F_glow F_spotCount F_pointCount F_wallCount F_table F_spots F_points F_walls F_across F_bareLight N_hung N_dead N_standing N_wants R_hung R_dead R_standing R_wants u6 u7 u8 u9 Q_hung Q_dead Q_standing Q_wants A_size A_kinds A_numbers A_befores S_size S_points S_values S_were Z_served Z_sums) H := hP
        have hD : va_D A (WD14 cI cC cZ a_X a_X_doings a_T a_T_letters a_F a_F_table a_F_spots a_F_points a_F_walls a_F_across a_F_bareLight a_N a_N_wants a_R a_R_wants a_P a_P_wants a_Q a_Q_wants a_A a_A_kinds a_A_numbers a_A_befores a_S a_S_points a_S_values a_S_were a_Z a_Z_served a_Z_sums t10 X_theSeed X_doings T_length T_letters F_glow F_spotCount F_pointCount F_wallCount F_table F_spots F_points F_walls F_across F_bareLight N_hung N_dead N_standing N_wants R_hung R_dead R_standing R_wants u6 u7 u8 u9 Q_hung Q_dead Q_standing Q_wants A_size A_kinds A_numbers A_befores S_size S_points S_values S_were Z_served Z_sums) := hD
        refine lv_aload_n hx hb dX6_keep_35 rfl (lv_at hl 0 rfl) ?_
        refine va_get (D := D) (ci := 6) (v := .ref a_N) (C := RX6) (T := TX6) (N := 12) hx hb hts inlX6 hown hK hP 0 rfl rfl 2 (by decide) (hts _ kw_24) (fun _ h9 => h9) rfl dX6_keep_36 ?_
        refine va_getN (D := D) (ci := 2) (v := .int N_hung) (C := RX2) (T := TX2) (N := 5) hx hb hts inlX2 hown hK hP 11 rfl rfl 2 (by decide) (va_Nw.use rfl (ks_f11 hN)) (fun _ h9 => h9) rfl dX6_keep_39 ?_
        obtain ⟨r12, hc11, h⟩ := oc_bind h
        refine kro_i (wc := (WD0 cI cC cZ)) C0 hP hD hS [] rfl (kS (n := 1) (As := [.int N_hung]) (rest := []) (wc := (WD0 cI cC cZ)) C0 hP hD hS [] rfl (by decide) (c_J6_bitCount l D cI cC cZ  H.size  N_hung r12 hc11) kw_447 kw_445 kw_446 kw_418 (by decide +kernel) (by decide) rfl hl.1 rfl (Nat.le_of_ble_eq_true rfl) ⟨Nat.zero_le _, Nat.zero_le _⟩ dX6_keep_42) (fun H locs hP hS => ?_)
        cases h
        exact kret_i C0 hP hD hS rfl dX6_keep_45
      · have h := oc_f c4 h
        refine kro_r (wc := (WD14 cI cC cZ a_X a_X_doings a_T a_T_letters a_F a_F_table a_F_spots a_F_points a_F_walls a_F_across a_F_bareLight a_N a_N_wants a_R a_R_wants a_P a_P_wants a_Q a_Q_wants a_A a_A_kinds a_A_numbers a_A_befores a_S a_S_points a_S_values a_S_were a_Z a_Z_served a_Z_sums X_filledSlots X_theSeed X_doings T_length T_letters F_glow F_spotCount F_pointCount F_wallCount F_table F_spots F_points F_walls F_across F_bareLight N_hung N_dead N_standing N_wants R_hung R_dead R_standing R_wants P_hung P_dead P_standing P_wants Q_hung Q_dead Q_standing Q_wants A_size A_kinds A_numbers A_befores S_size S_points S_values S_were Z_served Z_sums)) C0 hP hD hS [0, 1, 2, 3, 4, 5, 6, 7, 8, 9, 10, 11, 12, 13, 14, 15, 16, 17, 18, 19, 20, 21, 22, 23, 24, 25, 26, 27, 28, 29] rfl (kV (n := 1) (As := [.int p1]) (rest := []) (wc := (WD14 cI cC cZ a_X a_X_doings a_T a_T_letters a_F a_F_table a_F_spots a_F_points a_F_walls a_F_across a_F_bareLight a_N a_N_wants a_R a_R_wants a_P a_P_wants a_Q a_Q_wants a_A a_A_kinds a_A_numbers a_A_befores a_S a_S_points a_S_values a_S_were a_Z a_Z_served a_Z_sums X_filledSlots X_theSeed X_doings T_length T_letters F_glow F_spotCount F_pointCount F_wallCount F_table F_spots F_points F_walls F_across F_bareLight N_hung N_dead N_standing N_wants R_hung R_dead R_standing R_wants P_hung P_dead P_standing P_wants Q_hung Q_dead Q_standing Q_wants A_size A_kinds A_numbers A_befores S_size S_points S_values S_were Z_served Z_sums)) (C := RX6) C0 hP hD hS [0, 1, 2, 3, 4, 5, 6, 7, 8, 9, 10, 11, 12, 13, 14, 15, 16, 17, 18, 19, 20, 21, 22, 23, 24, 25, 26, 27, 28, 29] rfl (by decide) (c_X6_slotAt l D cI cC cZ a_X a_X_doings a_T a_T_letters a_F a_F_table a_F_spots a_F_points a_F_walls a_F_across a_F_bareLight a_N a_N_wants a_R a_R_wants a_P a_P_wants a_Q a_Q_wants a_A a_A_kinds a_A_numbers a_A_befores a_S a_S_points a_S_values a_S_were a_Z a_Z_served a_Z_sums H.size X_filledSlots X_theSeed X_doings T_length T_letters F_glow F_spotCount F_pointCount F_wallCount F_table F_spots F_points F_walls F_across F_bareLight N_hung N_dead N_standing N_wants R_hung R_dead R_standing R_wants P_hung P_dead P_standing P_wants Q_hung Q_dead Q_standing Q_wants A_size A_kinds A_numbers A_befores S_size S_points S_values S_were Z_served Z_sums p1 a_Q (by unfold f_X6_slotAt; rw [if_neg c4])) kw_788 kw_785 kw_786 kw_787 kw_2 (by decide +kernel) (by decide) rfl rfl rfl hl.1 rfl (Nat.le_of_ble_eq_true rfl) ⟨Nat.zero_le _, Nat.zero_le _⟩ dX6_keep_13) (fun H locs hP hS => ?_)
        refine lv_aload_n hx hb dX6_keep_16 rfl (lv_at hl 0 rfl) ?_
        refine va_get (D := D) (ci := 6) (v := .ref a_N) (C := RX6) (T := TX6) (N := 12) hx hb hts inlX6 hown hK hP 0 rfl rfl 2 (by decide) (hts _ kw_24) (fun _ h9 => h9) rfl dX6_keep_17 ?_
        obtain ⟨u14, u15, u16, u17, hc13, h⟩ := oc_b4 h
        refine kgo_v (wc := (WD7 cI cC cZ a_Q a_Q_wants a_F a_F_table a_F_spots a_F_points a_F_walls a_F_across a_F_bareLight a_N a_N_wants Q_hung Q_dead Q_standing Q_wants F_glow F_spotCount F_pointCount F_wallCount F_table F_spots F_points F_walls F_across F_bareLight N_hung N_dead N_standing N_wants)) (wc' := (WD7 cI cC cZ a_Q a_Q_wants a_F a_F_table a_F_spots a_F_points a_F_walls a_F_across a_F_bareLight a_N a_N_wants u14 u15 u16 u17 F_glow F_spotCount F_pointCount F_wallCount F_table F_spots F_points F_walls F_across F_bareLight N_hung N_dead N_standing N_wants)) (ws' := (WD14 cI cC cZ a_X a_X_doings a_T a_T_letters a_F a_F_table a_F_spots a_F_points a_F_walls a_F_across a_F_bareLight a_N a_N_wants a_R a_R_wants a_P a_P_wants a_Q a_Q_wants a_A a_A_kinds a_A_numbers a_A_befores a_S a_S_points a_S_values a_S_were a_Z a_Z_served a_Z_sums X_filledSlots X_theSeed X_doings T_length T_letters F_glow F_spotCount F_pointCount F_wallCount F_table F_spots F_points F_walls F_across F_bareLight N_hung N_dead N_standing N_wants R_hung R_dead R_standing R_wants P_hung P_dead P_standing P_wants u14 u15 u16 u17 A_size A_kinds A_numbers A_befores S_size S_points S_values S_were Z_served Z_sums)) C0 hP hD hS [17, 18, 4, 5, 6, 7, 8, 9, 10, 11, 12] [0, 1, 2, 3, 13, 14, 15, 16, 19, 20, 21, 22, 23, 24, 25, 26, 27, 28, 29] [0, 1, 2, 3, 21, 22, 23, 24, 25, 26, 27, 28, 29, 4, 5, 6, 7, 19, 20, 8, 9, 10, 11, 12, 13, 14, 15, 16, 17, 18] [(a_X, .inr (6, [.ref a_T, .ref a_F, .ref a_N, .ref a_R, .ref a_P, .ref a_Q, .ref a_A, .ref a_S, .ref a_Z, .ref a_X_doings, .int X_filledSlots, .long X_theSeed])), (a_X_doings, .inl (cI, 4, .inl X_doings)), (a_T, .inr (5, [.ref a_T_letters, .int T_length])), (a_T_letters, .inl (cC, 99, .inl T_letters)), (a_R, .inr (2, [.ref a_F, .ref a_R_wants, .int R_hung, .int R_dead, .int R_standing])), (a_R_wants, .inl (cI, 6, .inl R_wants)), (a_P, .inr (2, [.ref a_F, .ref a_P_wants, .int P_hung, .int P_dead, .int P_standing])), (a_P_wants, .inl (cI, 6, .inl P_wants)), (a_A, .inr (0, [.ref a_A_kinds, .ref a_A_numbers, .ref a_A_befores, .int A_size])), (a_A_kinds, .inl (cI, 14, .inl A_kinds)), (a_A_numbers, .inl (cI, 14, .inl A_numbers)), (a_A_befores, .inl (cI, 14, .inl A_befores)), (a_S, .inr (3, [.ref a_S_points, .ref a_S_values, .ref a_S_were, .int S_size])), (a_S_points, .inl (cI, 6, .inl S_points)), (a_S_values, .inl (cI, 6, .inl S_values)), (a_S_were, .inl (cZ, 6, .inl S_were)), (a_Z, .inr (4, [.ref a_F, .ref a_Z_served, .ref a_Z_sums])), (a_Z_served, .inl (cI, 256, .inl Z_served)), (a_Z_sums, .inl (cI, 256, .inl Z_sums))] rfl rfl (by decide) (by decide) rfl (by decide) (kVN (n := 1) (As := [.ref a_N]) (rest := []) (wc := (WD7 cI cC cZ a_Q a_Q_wants a_F a_F_table a_F_spots a_F_points a_F_walls a_F_across a_F_bareLight a_N a_N_wants Q_hung Q_dead Q_standing Q_wants F_glow F_spotCount F_pointCount F_wallCount F_table F_spots F_points F_walls F_across F_bareLight N_hung N_dead N_standing N_wants)) (C := RX2) C0 hP hD hS [17, 18, 4, 5, 6, 7, 8, 9, 10, 11, 12] rfl (by decide) (c_X2_copyFrom l D cI cC cZ a_Q a_Q_wants a_F a_F_table a_F_spots a_F_points a_F_walls a_F_across a_F_bareLight a_N a_N_wants H.size Q_hung Q_dead Q_standing Q_wants F_glow F_spotCount F_pointCount F_wallCount F_table F_spots F_points F_walls F_across F_bareLight N_hung N_dead N_standing N_wants  u14 u15 u16 u17 hc13) kw_627 (ks_m45 hN) kw_625 kw_626 kw_23 (by decide +kernel) (by decide) rfl rfl rfl hl.1 rfl (Nat.le_of_ble_eq_true rfl) ⟨Nat.zero_le _, Nat.zero_le _⟩ dX6_keep_20) (fun H locs hP hD hS => ?_)
        refine lv_aload_n hx hb dX6_keep_23 rfl (lv_at hl 0 rfl) ?_
        refine lv_dup hx hb dX6_keep_24 rfl ?_
        refine va_get (D := D) (ci := 6) (v := .int X_filledSlots) (C := RX6) (T := TX6) (N := 12) hx hb hts inlX6 hown hK hP 0 rfl rfl 10 (by decide) (hts _ kw_202) (fun _ h9 => h9) rfl dX6_keep_25 ?_
        refine lv_iconst (v := (1 : Int32)) hx hb dX6_keep_28 (by decide) ?_
        refine lv_iload_n hx hb dX6_keep_29 rfl (lv_at hl 1 rfl) ?_
        refine lv_ishl hx hb dX6_keep_30 ?_
        refine lv_ior hx hb dX6_keep_31 ?_
        refine lv_topi (fun t18 e_t18 => ?_)
        have h := oc_nm e_t18 h
        refine va_put (D := D) (ci := 6) (v := .int t18) (ty := .int) (C := RX6) (T := TX6) (N := 12) hx hb hts inlX6 tyX6 tyX6_ok nmX6 hown hK hP hD hS 0 rfl rfl 10 (by decide) (hts _ kw_202) (fun _ h9 => h9) rfl (by decide +kernel) rfl rfl (Nat.le_of_ble_eq_true rfl) dX6_keep_32 (fun H locs hP hD hS => ?_)
        have hP : va_P D vwCl (WD14 cI cC cZ a_X a_X_doings a_T a_T_letters a_F a_F_table a_F_spots a_F_points a_F_walls a_F_across a_F_bareLight a_N a_N_wants a_R a_R_wants a_P a_P_wants a_Q a_Q_wants a_A a_A_kinds a_A_numbers a_A_befores a_S a_S_points a_S_values a_S_were a_Z a_Z_served a_Z_sums t18 X_theSeed X_doings T_length T_letters F_glow F_spotCount F_pointCount F_wallCount F_table F_spots F_points F_walls F_across F_bareLight N_hung N_dead N_standing N_wants R_hung R_dead R_standing R_wants P_hung P_dead P_standing P_wants u14 u15 u16 u17 A_size A_kinds A_numbers A_befores S_size S_points S_values S_were Z_served Z_sums) H := hP
        have hD : va_D A (WD14 cI cC cZ a_X a_X_doings a_T a_T_letters a_F a_F_table a_F_spots a_F_points a_F_walls a_F_across a_F_bareLight a_N a_N_wants a_R a_R_wants a_P a_P_wants a_Q a_Q_wants a_A a_A_kinds a_A_numbers a_A_befores a_S a_S_points a_S_values a_S_were a_Z a_Z_served a_Z_sums t18 X_theSeed X_doings T_length T_letters F_glow F_spotCount F_pointCount F_wallCount F_table F_spots F_points F_walls F_across F_bareLight N_hung N_dead N_standing N_wants R_hung R_dead R_standing R_wants P_hung P_dead P_standing P_wants u14 u15 u16 u17 A_size A_kinds A_numbers A_befores S_size S_points S_values S_were Z_served Z_sums) := hD
        refine lv_aload_n hx hb dX6_keep_35 rfl (lv_at hl 0 rfl) ?_
        refine va_get (D := D) (ci := 6) (v := .ref a_N) (C := RX6) (T := TX6) (N := 12) hx hb hts inlX6 hown hK hP 0 rfl rfl 2 (by decide) (hts _ kw_24) (fun _ h9 => h9) rfl dX6_keep_36 ?_
        refine va_getN (D := D) (ci := 2) (v := .int N_hung) (C := RX2) (T := TX2) (N := 5) hx hb hts inlX2 hown hK hP 11 rfl rfl 2 (by decide) (va_Nw.use rfl (ks_f11 hN)) (fun _ h9 => h9) rfl dX6_keep_39 ?_
        obtain ⟨r20, hc19, h⟩ := oc_bind h
        refine kro_i (wc := (WD0 cI cC cZ)) C0 hP hD hS [] rfl (kS (n := 1) (As := [.int N_hung]) (rest := []) (wc := (WD0 cI cC cZ)) C0 hP hD hS [] rfl (by decide) (c_J6_bitCount l D cI cC cZ  H.size  N_hung r20 hc19) kw_447 kw_445 kw_446 kw_418 (by decide +kernel) (by decide) rfl hl.1 rfl (Nat.le_of_ble_eq_true rfl) ⟨Nat.zero_le _, Nat.zero_le _⟩ dX6_keep_42) (fun H locs hP hS => ?_)
        cases h
        exact kret_i C0 hP hD hS rfl dX6_keep_45
    · have h := oc_f c2 h
      refine lv_iconst (v := (-1 : Int32)) hx hb dX6_keep_9 (by decide) ?_
      cases h
      exact kret_i C0 hP hD hS rfl dX6_keep_10
abbrev rm_X6_again : Room := { frames := 1, cells := 0, slots := 0, locals := 22 }
noncomputable def f_X6_again (X_filledSlots : Int32) (N_hung : Int32) (N_dead : Int32) (N_standing : Int32) (N_wants : Nat → Int32) (P_hung : Int32) (P_dead : Int32) (P_standing : Int32) (P_wants : Nat → Int32) (Q_hung : Int32) (Q_dead : Int32) (Q_standing : Int32) (Q_wants : Nat → Int32) (A_size : Int32) (p1 : Int32) : Option (Int32 × Int32 × Int32 × Int32 × (Nat → Int32) × Int32) := if p1 < 0 then (some ((-1 : Int32), N_hung, N_dead, N_standing, N_wants, A_size)) else (if p1 ≤ (1 : Int32) then (if ((X_filledSlots >>> (p1 &&& 31)) &&& (1 : Int32)) = 0 then (some ((-3 : Int32), N_hung, N_dead, N_standing, N_wants, A_size)) else (if p1 = 0 then ((f_X2_copyFrom N_hung N_dead N_standing N_wants P_hung P_dead P_standing P_wants).bind (fun z => un4 z (fun u7 u8 u9 u10 => (f_J6_bitCount u7).bind (fun r12 => some (r12, u7, u8, u9, u10, (0 : Int32)))))) else ((f_X2_copyFrom N_hung N_dead N_standing N_wants Q_hung Q_dead Q_standing Q_wants).bind (fun z => un4 z (fun u14 u15 u16 u17 => (f_J6_bitCount u14).bind (fun r19 => some (r19, u14, u15, u16, u17, (0 : Int32)))))))) else (some ((-1 : Int32), N_hung, N_dead, N_standing, N_wants, A_size)))
set_option maxHeartbeats 4000000 in
set_option maxRecDepth 100000 in
theorem c_X6_again (l : Launch) (D : va_G) (cI cC cZ : ClassId) (a_X a_X_doings a_T a_T_letters a_F a_F_table a_F_spots a_F_points a_F_walls a_F_across a_F_bareLight a_N a_N_wants a_R a_R_wants a_P a_P_wants a_Q a_Q_wants a_A a_A_kinds a_A_numbers a_A_befores a_S a_S_points a_S_values a_S_were a_Z a_Z_served a_Z_sums : Nat) (sz : Nat) (X_filledSlots : Int32) (X_theSeed : Int64) (X_doings : Nat → Int32) (T_length : Int32) (T_letters : Nat → Int32) (F_glow : Int32) (F_spotCount : Int32) (F_pointCount : Int32) (F_wallCount : Int32) (F_table : Nat → Int32) (F_spots : Nat → Int32) (F_points : Nat → Int32) (F_walls : Nat → Int32) (F_across : Nat → Int32) (F_bareLight : Nat → Int32) (N_hung : Int32) (N_dead : Int32) (N_standing : Int32) (N_wants : Nat → Int32) (R_hung : Int32) (R_dead : Int32) (R_standing : Int32) (R_wants : Nat → Int32) (P_hung : Int32) (P_dead : Int32) (P_standing : Int32) (P_wants : Nat → Int32) (Q_hung : Int32) (Q_dead : Int32) (Q_standing : Int32) (Q_wants : Nat → Int32) (A_size : Int32) (A_kinds : Nat → Int32) (A_numbers : Nat → Int32) (A_befores : Nat → Int32) (S_size : Int32) (S_points : Nat → Int32) (S_values : Nat → Int32) (S_were : Nat → Int32) (Z_served : Nat → Int32) (Z_sums : Nat → Int32) (p1 : Int32) (rr : Int32) (u_N_hung : Int32) (u_N_dead : Int32) (u_N_standing : Int32) (u_N_wants : Nat → Int32) (u_A_size : Int32) (hf : f_X6_again X_filledSlots N_hung N_dead N_standing N_wants P_hung P_dead P_standing P_wants Q_hung Q_dead Q_standing Q_wants A_size p1 = some (rr, u_N_hung, u_N_dead, u_N_standing, u_N_wants, u_A_size)) : kMet l yX6_again cX6_again 2 (some .int) rm_X6_again D (kTY cI cC cZ) [.ref a_X, .int p1] (WD14 cI cC cZ a_X a_X_doings a_T a_T_letters a_F a_F_table a_F_spots a_F_points a_F_walls a_F_across a_F_bareLight a_N a_N_wants a_R a_R_wants a_P a_P_wants a_Q a_Q_wants a_A a_A_kinds a_A_numbers a_A_befores a_S a_S_points a_S_values a_S_were a_Z a_Z_served a_Z_sums X_filledSlots X_theSeed X_doings T_length T_letters F_glow F_spotCount F_pointCount F_wallCount F_table F_spots F_points F_walls F_across F_bareLight N_hung N_dead N_standing N_wants R_hung R_dead R_standing R_wants P_hung P_dead P_standing P_wants Q_hung Q_dead Q_standing Q_wants A_size A_kinds A_numbers A_befores S_size S_points S_values S_were Z_served Z_sums) sz (kQI D (kTY cI cC cZ) (va_A (WD14 cI cC cZ a_X a_X_doings a_T a_T_letters a_F a_F_table a_F_spots a_F_points a_F_walls a_F_across a_F_bareLight a_N a_N_wants a_R a_R_wants a_P a_P_wants a_Q a_Q_wants a_A a_A_kinds a_A_numbers a_A_befores a_S a_S_points a_S_values a_S_were a_Z a_Z_served a_Z_sums X_filledSlots X_theSeed X_doings T_length T_letters F_glow F_spotCount F_pointCount F_wallCount F_table F_spots F_points F_walls F_across F_bareLight N_hung N_dead N_standing N_wants R_hung R_dead R_standing R_wants P_hung P_dead P_standing P_wants Q_hung Q_dead Q_standing Q_wants A_size A_kinds A_numbers A_befores S_size S_points S_values S_were Z_served Z_sums) sz) rr (WD14 cI cC cZ a_X a_X_doings a_T a_T_letters a_F a_F_table a_F_spots a_F_points a_F_walls a_F_across a_F_bareLight a_N a_N_wants a_R a_R_wants a_P a_P_wants a_Q a_Q_wants a_A a_A_kinds a_A_numbers a_A_befores a_S a_S_points a_S_values a_S_were a_Z a_Z_served a_Z_sums X_filledSlots X_theSeed X_doings T_length T_letters F_glow F_spotCount F_pointCount F_wallCount F_table F_spots F_points F_walls F_across F_bareLight u_N_hung u_N_dead u_N_standing u_N_wants R_hung R_dead R_standing R_wants P_hung P_dead P_standing P_wants Q_hung Q_dead Q_standing Q_wants u_A_size A_kinds A_numbers A_befores S_size S_points S_values S_were Z_served Z_sums)) := by
  refine kEnter (lv := [(0, .ref a_X), (1, .int p1)]) (own := RX6) (by decide) rfl (Nat.le_of_ble_eq_true rfl) rfl ?_
  intro p e s m below meth c hsz C0 hP hD hS ls hl
  generalize (va_A (WD14 cI cC cZ a_X a_X_doings a_T a_T_letters a_F a_F_table a_F_spots a_F_points a_F_walls a_F_across a_F_bareLight a_N a_N_wants a_R a_R_wants a_P a_P_wants a_Q a_Q_wants a_A a_A_kinds a_A_numbers a_A_befores a_S a_S_points a_S_values a_S_were a_Z a_Z_served a_Z_sums X_filledSlots X_theSeed X_doings T_length T_letters F_glow F_spotCount F_pointCount F_wallCount F_table F_spots F_points F_walls F_across F_bareLight N_hung N_dead N_standing N_wants R_hung R_dead R_standing R_wants P_hung P_dead P_standing P_wants Q_hung Q_dead Q_standing Q_wants A_size A_kinds A_numbers A_befores S_size S_points S_values S_were Z_served Z_sums) sz) = A at C0 hD hS ⊢
  clear hsz hS
  obtain ⟨H, hHs⟩ : ∃ H : Heap, H = s.heap := ⟨_, rfl⟩
  have hS : va_S A s.heap H [] := by rw [hHs]; exact va_S.rf
  rw [← hHs] at hP ⊢
  obtain ⟨hx, hb, hr, hml, hown, hts, hK, hN, hA, hlocks, hF⟩ := id C0
  have h := hf
  unfold f_X6_again at h
  refine lv_iload_n hx hb dX6_again_0 rfl (lv_at hl 1 rfl) ?_
  refine lv_if_lt (tgt := 9) hx hb dX6_again_1 (by decide) (fun c1 => ?_) (fun c1 => ?_)
  · have h := oc_t c1 h
    refine lv_iconst (v := (-1 : Int32)) hx hb dX6_again_9 (by decide) ?_
    cases h
    exact kret_i C0 hP hD hS rfl dX6_again_10
  · have h := oc_f c1 h
    refine lv_iload_n hx hb dX6_again_4 rfl (lv_at hl 1 rfl) ?_
    refine lv_iconst (v := (1 : Int32)) hx hb dX6_again_5 (by decide) ?_
    refine lv_icmp_le (tgt := 11) hx hb dX6_again_6 (by decide) (fun c2 => ?_) (fun c2 => ?_)
    · have h := oc_t c2 h
      refine lv_aload_n hx hb dX6_again_11 rfl (lv_at hl 0 rfl) ?_
      refine va_get (D := D) (ci := 6) (v := .int X_filledSlots) (C := RX6) (T := TX6) (N := 12) hx hb hts inlX6 hown hK hP 0 rfl rfl 10 (by decide) (hts _ kw_202) (fun _ h9 => h9) rfl dX6_again_12 ?_
      refine lv_iload_n hx hb dX6_again_15 rfl (lv_at hl 1 rfl) ?_
      refine lv_ishr hx hb dX6_again_16 ?_
      refine lv_iconst (v := (1 : Int32)) hx hb dX6_again_17 (by decide) ?_
      refine lv_iand hx hb dX6_again_18 ?_
      refine lv_if_ne (tgt := 25) hx hb dX6_again_19 (by decide) (fun c3 => ?_) (fun c3 => ?_)
      · have h := oc_f c3 h
        refine lv_aload_n hx hb dX6_again_25 rfl (lv_at hl 0 rfl) ?_
        refine va_get (D := D) (ci := 6) (v := .ref a_N) (C := RX6) (T := TX6) (N := 12) hx hb hts inlX6 hown hK hP 0 rfl rfl 2 (by decide) (hts _ kw_24) (fun _ h9 => h9) rfl dX6_again_26 ?_
        refine lv_aload_n hx hb dX6_again_29 rfl (lv_at hl 0 rfl) ?_
        refine lv_iload_n hx hb dX6_again_30 rfl (lv_at hl 1 rfl) ?_
        by_cases c5 : p1 = 0
        · have h := oc_t c5 h
          refine kro_r (wc := (WD14 cI cC cZ a_X a_X_doings a_T a_T_letters a_F a_F_table a_F_spots a_F_points a_F_walls a_F_across a_F_bareLight a_N a_N_wants a_R a_R_wants a_P a_P_wants a_Q a_Q_wants a_A a_A_kinds a_A_numbers a_A_befores a_S a_S_points a_S_values a_S_were a_Z a_Z_served a_Z_sums X_filledSlots X_theSeed X_doings T_length T_letters F_glow F_spotCount F_pointCount F_wallCount F_table F_spots F_points F_walls F_across F_bareLight N_hung N_dead N_standing N_wants R_hung R_dead R_standing R_wants P_hung P_dead P_standing P_wants Q_hung Q_dead Q_standing Q_wants A_size A_kinds A_numbers A_befores S_size S_points S_values S_were Z_served Z_sums)) C0 hP hD hS [0, 1, 2, 3, 4, 5, 6, 7, 8, 9, 10, 11, 12, 13, 14, 15, 16, 17, 18, 19, 20, 21, 22, 23, 24, 25, 26, 27, 28, 29] rfl (kV (n := 1) (As := [.int p1]) (rest := [.ref a_N]) (wc := (WD14 cI cC cZ a_X a_X_doings a_T a_T_letters a_F a_F_table a_F_spots a_F_points a_F_walls a_F_across a_F_bareLight a_N a_N_wants a_R a_R_wants a_P a_P_wants a_Q a_Q_wants a_A a_A_kinds a_A_numbers a_A_befores a_S a_S_points a_S_values a_S_were a_Z a_Z_served a_Z_sums X_filledSlots X_theSeed X_doings T_length T_letters F_glow F_spotCount F_pointCount F_wallCount F_table F_spots F_points F_walls F_across F_bareLight N_hung N_dead N_standing N_wants R_hung R_dead R_standing R_wants P_hung P_dead P_standing P_wants Q_hung Q_dead Q_standing Q_wants A_size A_kinds A_numbers A_befores S_size S_points S_values S_were Z_served Z_sums)) (C := RX6) C0 hP hD hS [0, 1, 2, 3, 4, 5, 6, 7, 8, 9, 10, 11, 12, 13, 14, 15, 16, 17, 18, 19, 20, 21, 22, 23, 24, 25, 26, 27, 28, 29] rfl (by decide) (c_X6_slotAt l D cI cC cZ a_X a_X_doings a_T a_T_letters a_F a_F_table a_F_spots a_F_points a_F_walls a_F_across a_F_bareLight a_N a_N_wants a_R a_R_wants a_P a_P_wants a_Q a_Q_wants a_A a_A_kinds a_A_numbers a_A_befores a_S a_S_points a_S_values a_S_were a_Z a_Z_served a_Z_sums H.size X_filledSlots X_theSeed X_doings T_length T_letters F_glow F_spotCount F_pointCount F_wallCount F_table F_spots F_points F_walls F_across F_bareLight N_hung N_dead N_standing N_wants R_hung R_dead R_standing R_wants P_hung P_dead P_standing P_wants Q_hung Q_dead Q_standing Q_wants A_size A_kinds A_numbers A_befores S_size S_points S_values S_were Z_served Z_sums p1 a_P (by unfold f_X6_slotAt; rw [if_pos c5])) kw_788 kw_785 kw_786 kw_787 kw_2 (by decide +kernel) (by decide) rfl rfl rfl hl.1 rfl (Nat.le_of_ble_eq_true rfl) ⟨Nat.zero_le _, Nat.zero_le _⟩ dX6_again_31) (fun H locs hP hS => ?_)
          obtain ⟨u7, u8, u9, u10, hc6, h⟩ := oc_b4 h
          refine kgo_v (wc := (WD7 cI cC cZ a_N a_N_wants a_F a_F_table a_F_spots a_F_points a_F_walls a_F_across a_F_bareLight a_P a_P_wants N_hung N_dead N_standing N_wants F_glow F_spotCount F_pointCount F_wallCount F_table F_spots F_points F_walls F_across F_bareLight P_hung P_dead P_standing P_wants)) (wc' := (WD7 cI cC cZ a_N a_N_wants a_F a_F_table a_F_spots a_F_points a_F_walls a_F_across a_F_bareLight a_P a_P_wants u7 u8 u9 u10 F_glow F_spotCount F_pointCount F_wallCount F_table F_spots F_points F_walls F_across F_bareLight P_hung P_dead P_standing P_wants)) (ws' := (WD14 cI cC cZ a_X a_X_doings a_T a_T_letters a_F a_F_table a_F_spots a_F_points a_F_walls a_F_across a_F_bareLight a_N a_N_wants a_R a_R_wants a_P a_P_wants a_Q a_Q_wants a_A a_A_kinds a_A_numbers a_A_befores a_S a_S_points a_S_values a_S_were a_Z a_Z_served a_Z_sums X_filledSlots X_theSeed X_doings T_length T_letters F_glow F_spotCount F_pointCount F_wallCount F_table F_spots F_points F_walls F_across F_bareLight u7 u8 u9 u10 R_hung R_dead R_standing R_wants P_hung P_dead P_standing P_wants Q_hung Q_dead Q_standing Q_wants A_size A_kinds A_numbers A_befores S_size S_points S_values S_were Z_served Z_sums)) C0 hP hD hS [11, 12, 4, 5, 6, 7, 8, 9, 10, 15, 16] [0, 1, 2, 3, 13, 14, 17, 18, 19, 20, 21, 22, 23, 24, 25, 26, 27, 28, 29] [0, 1, 2, 3, 21, 22, 23, 24, 25, 26, 27, 19, 20, 4, 5, 28, 29, 6, 7, 8, 9, 10, 11, 12, 13, 14, 15, 16, 17, 18] [(a_X, .inr (6, [.ref a_T, .ref a_F, .ref a_N, .ref a_R, .ref a_P, .ref a_Q, .ref a_A, .ref a_S, .ref a_Z, .ref a_X_doings, .int X_filledSlots, .long X_theSeed])), (a_X_doings, .inl (cI, 4, .inl X_doings)), (a_T, .inr (5, [.ref a_T_letters, .int T_length])), (a_T_letters, .inl (cC, 99, .inl T_letters)), (a_R, .inr (2, [.ref a_F, .ref a_R_wants, .int R_hung, .int R_dead, .int R_standing])), (a_R_wants, .inl (cI, 6, .inl R_wants)), (a_Q, .inr (2, [.ref a_F, .ref a_Q_wants, .int Q_hung, .int Q_dead, .int Q_standing])), (a_Q_wants, .inl (cI, 6, .inl Q_wants)), (a_A, .inr (0, [.ref a_A_kinds, .ref a_A_numbers, .ref a_A_befores, .int A_size])), (a_A_kinds, .inl (cI, 14, .inl A_kinds)), (a_A_numbers, .inl (cI, 14, .inl A_numbers)), (a_A_befores, .inl (cI, 14, .inl A_befores)), (a_S, .inr (3, [.ref a_S_points, .ref a_S_values, .ref a_S_were, .int S_size])), (a_S_points, .inl (cI, 6, .inl S_points)), (a_S_values, .inl (cI, 6, .inl S_values)), (a_S_were, .inl (cZ, 6, .inl S_were)), (a_Z, .inr (4, [.ref a_F, .ref a_Z_served, .ref a_Z_sums])), (a_Z_served, .inl (cI, 256, .inl Z_served)), (a_Z_sums, .inl (cI, 256, .inl Z_sums))] rfl rfl (by decide) (by decide) rfl (by decide) (kVN (n := 1) (As := [.ref a_P]) (rest := []) (wc := (WD7 cI cC cZ a_N a_N_wants a_F a_F_table a_F_spots a_F_points a_F_walls a_F_across a_F_bareLight a_P a_P_wants N_hung N_dead N_standing N_wants F_glow F_spotCount F_pointCount F_wallCount F_table F_spots F_points F_walls F_across F_bareLight P_hung P_dead P_standing P_wants)) (C := RX2) C0 hP hD hS [11, 12, 4, 5, 6, 7, 8, 9, 10, 15, 16] rfl (by decide) (c_X2_copyFrom l D cI cC cZ a_N a_N_wants a_F a_F_table a_F_spots a_F_points a_F_walls a_F_across a_F_bareLight a_P a_P_wants H.size N_hung N_dead N_standing N_wants F_glow F_spotCount F_pointCount F_wallCount F_table F_spots F_points F_walls F_across F_bareLight P_hung P_dead P_standing P_wants  u7 u8 u9 u10 hc6) kw_627 (ks_m45 hN) kw_625 kw_626 kw_23 (by decide +kernel) (by decide) rfl rfl rfl hl.1 rfl (Nat.le_of_ble_eq_true rfl) ⟨Nat.zero_le _, Nat.zero_le _⟩ dX6_again_34) (fun H locs hP hD hS => ?_)
          refine lv_aload_n hx hb dX6_again_37 rfl (lv_at hl 0 rfl) ?_
          refine va_get (D := D) (ci := 6) (v := .ref a_A) (C := RX6) (T := TX6) (N := 12) hx hb hts inlX6 hown hK hP 0 rfl rfl 6 (by decide) (hts _ kw_31) (fun _ h9 => h9) rfl dX6_again_38 ?_
          refine lv_iconst (v := (0 : Int32)) hx hb dX6_again_41 (by decide) ?_
          refine va_putN (D := D) (ci := 0) (v := .int (0 : Int32)) (ty := .int) (C := RX0) (T := TX0) (N := 4) hx hb hts inlX0 tyX0 tyX0_ok nmX0 hown hK hP hD hS 19 rfl rfl 3 (by decide) (va_Nw.use rfl (ks_f15 hN)) (fun _ h9 => h9) rfl (by decide +kernel) rfl rfl (Nat.le_of_ble_eq_true rfl) dX6_again_42 (fun H locs hP hD hS => ?_)
          have hP : va_P D vwCl (WD14 cI cC cZ a_X a_X_doings a_T a_T_letters a_F a_F_table a_F_spots a_F_points a_F_walls a_F_across a_F_bareLight a_N a_N_wants a_R a_R_wants a_P a_P_wants a_Q a_Q_wants a_A a_A_kinds a_A_numbers a_A_befores a_S a_S_points a_S_values a_S_were a_Z a_Z_served a_Z_sums X_filledSlots X_theSeed X_doings T_length T_letters F_glow F_spotCount F_pointCount F_wallCount F_table F_spots F_points F_walls F_across F_bareLight u7 u8 u9 u10 R_hung R_dead R_standing R_wants P_hung P_dead P_standing P_wants Q_hung Q_dead Q_standing Q_wants (0 : Int32) A_kinds A_numbers A_befores S_size S_points S_values S_were Z_served Z_sums) H := hP
          have hD : va_D A (WD14 cI cC cZ a_X a_X_doings a_T a_T_letters a_F a_F_table a_F_spots a_F_points a_F_walls a_F_across a_F_bareLight a_N a_N_wants a_R a_R_wants a_P a_P_wants a_Q a_Q_wants a_A a_A_kinds a_A_numbers a_A_befores a_S a_S_points a_S_values a_S_were a_Z a_Z_served a_Z_sums X_filledSlots X_theSeed X_doings T_length T_letters F_glow F_spotCount F_pointCount F_wallCount F_table F_spots F_points F_walls F_across F_bareLight u7 u8 u9 u10 R_hung R_dead R_standing R_wants P_hung P_dead P_standing P_wants Q_hung Q_dead Q_standing Q_wants (0 : Int32) A_kinds A_numbers A_befores S_size S_points S_values S_were Z_served Z_sums) := hD
          refine lv_aload_n hx hb dX6_again_45 rfl (lv_at hl 0 rfl) ?_
          refine va_get (D := D) (ci := 6) (v := .ref a_N) (C := RX6) (T := TX6) (N := 12) hx hb hts inlX6 hown hK hP 0 rfl rfl 2 (by decide) (hts _ kw_24) (fun _ h9 => h9) rfl dX6_again_46 ?_
          refine va_getN (D := D) (ci := 2) (v := .int u7) (C := RX2) (T := TX2) (N := 5) hx hb hts inlX2 hown hK hP 11 rfl rfl 2 (by decide) (va_Nw.use rfl (ks_f11 hN)) (fun _ h9 => h9) rfl dX6_again_49 ?_
          obtain ⟨r12, hc11, h⟩ := oc_bind h
          refine kro_i (wc := (WD0 cI cC cZ)) C0 hP hD hS [] rfl (kS (n := 1) (As := [.int u7]) (rest := []) (wc := (WD0 cI cC cZ)) C0 hP hD hS [] rfl (by decide) (c_J6_bitCount l D cI cC cZ  H.size  u7 r12 hc11) kw_447 kw_445 kw_446 kw_418 (by decide +kernel) (by decide) rfl hl.1 rfl (Nat.le_of_ble_eq_true rfl) ⟨Nat.zero_le _, Nat.zero_le _⟩ dX6_again_52) (fun H locs hP hS => ?_)
          cases h
          exact kret_i C0 hP hD hS rfl dX6_again_55
        · have h := oc_f c5 h
          refine kro_r (wc := (WD14 cI cC cZ a_X a_X_doings a_T a_T_letters a_F a_F_table a_F_spots a_F_points a_F_walls a_F_across a_F_bareLight a_N a_N_wants a_R a_R_wants a_P a_P_wants a_Q a_Q_wants a_A a_A_kinds a_A_numbers a_A_befores a_S a_S_points a_S_values a_S_were a_Z a_Z_served a_Z_sums X_filledSlots X_theSeed X_doings T_length T_letters F_glow F_spotCount F_pointCount F_wallCount F_table F_spots F_points F_walls F_across F_bareLight N_hung N_dead N_standing N_wants R_hung R_dead R_standing R_wants P_hung P_dead P_standing P_wants Q_hung Q_dead Q_standing Q_wants A_size A_kinds A_numbers A_befores S_size S_points S_values S_were Z_served Z_sums)) C0 hP hD hS [0, 1, 2, 3, 4, 5, 6, 7, 8, 9, 10, 11, 12, 13, 14, 15, 16, 17, 18, 19, 20, 21, 22, 23, 24, 25, 26, 27, 28, 29] rfl (kV (n := 1) (As := [.int p1]) (rest := [.ref a_N]) (wc := (WD14 cI cC cZ a_X a_X_doings a_T a_T_letters a_F a_F_table a_F_spots a_F_points a_F_walls a_F_across a_F_bareLight a_N a_N_wants a_R a_R_wants a_P a_P_wants a_Q a_Q_wants a_A a_A_kinds a_A_numbers a_A_befores a_S a_S_points a_S_values a_S_were a_Z a_Z_served a_Z_sums X_filledSlots X_theSeed X_doings T_length T_letters F_glow F_spotCount F_pointCount F_wallCount F_table F_spots F_points F_walls F_across F_bareLight N_hung N_dead N_standing N_wants R_hung R_dead R_standing R_wants P_hung P_dead P_standing P_wants Q_hung Q_dead Q_standing Q_wants A_size A_kinds A_numbers A_befores S_size S_points S_values S_were Z_served Z_sums)) (C := RX6) C0 hP hD hS [0, 1, 2, 3, 4, 5, 6, 7, 8, 9, 10, 11, 12, 13, 14, 15, 16, 17, 18, 19, 20, 21, 22, 23, 24, 25, 26, 27, 28, 29] rfl (by decide) (c_X6_slotAt l D cI cC cZ a_X a_X_doings a_T a_T_letters a_F a_F_table a_F_spots a_F_points a_F_walls a_F_across a_F_bareLight a_N a_N_wants a_R a_R_wants a_P a_P_wants a_Q a_Q_wants a_A a_A_kinds a_A_numbers a_A_befores a_S a_S_points a_S_values a_S_were a_Z a_Z_served a_Z_sums H.size X_filledSlots X_theSeed X_doings T_length T_letters F_glow F_spotCount F_pointCount F_wallCount F_table F_spots F_points F_walls F_across F_bareLight N_hung N_dead N_standing N_wants R_hung R_dead R_standing R_wants P_hung P_dead P_standing P_wants Q_hung Q_dead Q_standing Q_wants A_size A_kinds A_numbers A_befores S_size S_points S_values S_were Z_served Z_sums p1 a_Q (by unfold f_X6_slotAt; rw [if_neg c5])) kw_788 kw_785 kw_786 kw_787 kw_2 (by decide +kernel) (by decide) rfl rfl rfl hl.1 rfl (Nat.le_of_ble_eq_true rfl) ⟨Nat.zero_le _, Nat.zero_le _⟩ dX6_again_31) (fun H locs hP hS => ?_)
          obtain ⟨u14, u15, u16, u17, hc13, h⟩ := oc_b4 h
          refine kgo_v (wc := (WD7 cI cC cZ a_N a_N_wants a_F a_F_table a_F_spots a_F_points a_F_walls a_F_across a_F_bareLight a_Q a_Q_wants N_hung N_dead N_standing N_wants F_glow F_spotCount F_pointCount F_wallCount F_table F_spots F_points F_walls F_across F_bareLight Q_hung Q_dead Q_standing Q_wants)) (wc' := (WD7 cI cC cZ a_N a_N_wants a_F a_F_table a_F_spots a_F_points a_F_walls a_F_across a_F_bareLight a_Q a_Q_wants u14 u15 u16 u17 F_glow F_spotCount F_pointCount F_wallCount F_table F_spots F_points F_walls F_across F_bareLight Q_hung Q_dead Q_standing Q_wants)) (ws' := (WD14 cI cC cZ a_X a_X_doings a_T a_T_letters a_F a_F_table a_F_spots a_F_points a_F_walls a_F_across a_F_bareLight a_N a_N_wants a_R a_R_wants a_P a_P_wants a_Q a_Q_wants a_A a_A_kinds a_A_numbers a_A_befores a_S a_S_points a_S_values a_S_were a_Z a_Z_served a_Z_sums X_filledSlots X_theSeed X_doings T_length T_letters F_glow F_spotCount F_pointCount F_wallCount F_table F_spots F_points F_walls F_across F_bareLight u14 u15 u16 u17 R_hung R_dead R_standing R_wants P_hung P_dead P_standing P_wants Q_hung Q_dead Q_standing Q_wants A_size A_kinds A_numbers A_befores S_size S_points S_values S_were Z_served Z_sums)) C0 hP hD hS [11, 12, 4, 5, 6, 7, 8, 9, 10, 17, 18] [0, 1, 2, 3, 13, 14, 15, 16, 19, 20, 21, 22, 23, 24, 25, 26, 27, 28, 29] [0, 1, 2, 3, 21, 22, 23, 24, 25, 26, 27, 19, 20, 4, 5, 6, 7, 28, 29, 8, 9, 10, 11, 12, 13, 14, 15, 16, 17, 18] [(a_X, .inr (6, [.ref a_T, .ref a_F, .ref a_N, .ref a_R, .ref a_P, .ref a_Q, .ref a_A, .ref a_S, .ref a_Z, .ref a_X_doings, .int X_filledSlots, .long X_theSeed])), (a_X_doings, .inl (cI, 4, .inl X_doings)), (a_T, .inr (5, [.ref a_T_letters, .int T_length])), (a_T_letters, .inl (cC, 99, .inl T_letters)), (a_R, .inr (2, [.ref a_F, .ref a_R_wants, .int R_hung, .int R_dead, .int R_standing])), (a_R_wants, .inl (cI, 6, .inl R_wants)), (a_P, .inr (2, [.ref a_F, .ref a_P_wants, .int P_hung, .int P_dead, .int P_standing])), (a_P_wants, .inl (cI, 6, .inl P_wants)), (a_A, .inr (0, [.ref a_A_kinds, .ref a_A_numbers, .ref a_A_befores, .int A_size])), (a_A_kinds, .inl (cI, 14, .inl A_kinds)), (a_A_numbers, .inl (cI, 14, .inl A_numbers)), (a_A_befores, .inl (cI, 14, .inl A_befores)), (a_S, .inr (3, [.ref a_S_points, .ref a_S_values, .ref a_S_were, .int S_size])), (a_S_points, .inl (cI, 6, .inl S_points)), (a_S_values, .inl (cI, 6, .inl S_values)), (a_S_were, .inl (cZ, 6, .inl S_were)), (a_Z, .inr (4, [.ref a_F, .ref a_Z_served, .ref a_Z_sums])), (a_Z_served, .inl (cI, 256, .inl Z_served)), (a_Z_sums, .inl (cI, 256, .inl Z_sums))] rfl rfl (by decide) (by decide) rfl (by decide) (kVN (n := 1) (As := [.ref a_Q]) (rest := []) (wc := (WD7 cI cC cZ a_N a_N_wants a_F a_F_table a_F_spots a_F_points a_F_walls a_F_across a_F_bareLight a_Q a_Q_wants N_hung N_dead N_standing N_wants F_glow F_spotCount F_pointCount F_wallCount F_table F_spots F_points F_walls F_across F_bareLight Q_hung Q_dead Q_standing Q_wants)) (C := RX2) C0 hP hD hS [11, 12, 4, 5, 6, 7, 8, 9, 10, 17, 18] rfl (by decide) (c_X2_copyFrom l D cI cC cZ a_N a_N_wants a_F a_F_table a_F_spots a_F_points a_F_walls a_F_across a_F_bareLight a_Q a_Q_wants H.size N_hung N_dead N_standing N_wants F_glow F_spotCount F_pointCount F_wallCount F_table F_spots F_points F_walls F_across F_bareLight Q_hung Q_dead Q_standing Q_wants  u14 u15 u16 u17 hc13) kw_627 (ks_m45 hN) kw_625 kw_626 kw_23 (by decide +kernel) (by decide) rfl rfl rfl hl.1 rfl (Nat.le_of_ble_eq_true rfl) ⟨Nat.zero_le _, Nat.zero_le _⟩ dX6_again_34) (fun H locs hP hD hS => ?_)
          refine lv_aload_n hx hb dX6_again_37 rfl (lv_at hl 0 rfl) ?_
          refine va_get (D := D) (ci := 6) (v := .ref a_A) (C := RX6) (T := TX6) (N := 12) hx hb hts inlX6 hown hK hP 0 rfl rfl 6 (by decide) (hts _ kw_31) (fun _ h9 => h9) rfl dX6_again_38 ?_
          refine lv_iconst (v := (0 : Int32)) hx hb dX6_again_41 (by decide) ?_
          refine va_putN (D := D) (ci := 0) (v := .int (0 : Int32)) (ty := .int) (C := RX0) (T := TX0) (N := 4) hx hb hts inlX0 tyX0 tyX0_ok nmX0 hown hK hP hD hS 19 rfl rfl 3 (by decide) (va_Nw.use rfl (ks_f15 hN)) (fun _ h9 => h9) rfl (by decide +kernel) rfl rfl (Nat.le_of_ble_eq_true rfl) dX6_again_42 (fun H locs hP hD hS => ?_)
          have hP : va_P D vwCl (WD14 cI cC cZ a_X a_X_doings a_T a_T_letters a_F a_F_table a_F_spots a_F_points a_F_walls a_F_across a_F_bareLight a_N a_N_wants a_R a_R_wants a_P a_P_wants a_Q a_Q_wants a_A a_A_kinds a_A_numbers a_A_befores a_S a_S_points a_S_values a_S_were a_Z a_Z_served a_Z_sums X_filledSlots X_theSeed X_doings T_length T_letters F_glow F_spotCount F_pointCount F_wallCount F_table F_spots F_points F_walls F_across F_bareLight u14 u15 u16 u17 R_hung R_dead R_standing R_wants P_hung P_dead P_standing P_wants Q_hung Q_dead Q_standing Q_wants (0 : Int32) A_kinds A_numbers A_befores S_size S_points S_values S_were Z_served Z_sums) H := hP
          have hD : va_D A (WD14 cI cC cZ a_X a_X_doings a_T a_T_letters a_F a_F_table a_F_spots a_F_points a_F_walls a_F_across a_F_bareLight a_N a_N_wants a_R a_R_wants a_P a_P_wants a_Q a_Q_wants a_A a_A_kinds a_A_numbers a_A_befores a_S a_S_points a_S_values a_S_were a_Z a_Z_served a_Z_sums X_filledSlots X_theSeed X_doings T_length T_letters F_glow F_spotCount F_pointCount F_wallCount F_table F_spots F_points F_walls F_across F_bareLight u14 u15 u16 u17 R_hung R_dead R_standing R_wants P_hung P_dead P_standing P_wants Q_hung Q_dead Q_standing Q_wants (0 : Int32) A_kinds A_numbers A_befores S_size S_points S_values S_were Z_served Z_sums) := hD
          refine lv_aload_n hx hb dX6_again_45 rfl (lv_at hl 0 rfl) ?_
          refine va_get (D := D) (ci := 6) (v := .ref a_N) (C := RX6) (T := TX6) (N := 12) hx hb hts inlX6 hown hK hP 0 rfl rfl 2 (by decide) (hts _ kw_24) (fun _ h9 => h9) rfl dX6_again_46 ?_
          refine va_getN (D := D) (ci := 2) (v := .int u14) (C := RX2) (T := TX2) (N := 5) hx hb hts inlX2 hown hK hP 11 rfl rfl 2 (by decide) (va_Nw.use rfl (ks_f11 hN)) (fun _ h9 => h9) rfl dX6_again_49 ?_
          obtain ⟨r19, hc18, h⟩ := oc_bind h
          refine kro_i (wc := (WD0 cI cC cZ)) C0 hP hD hS [] rfl (kS (n := 1) (As := [.int u14]) (rest := []) (wc := (WD0 cI cC cZ)) C0 hP hD hS [] rfl (by decide) (c_J6_bitCount l D cI cC cZ  H.size  u14 r19 hc18) kw_447 kw_445 kw_446 kw_418 (by decide +kernel) (by decide) rfl hl.1 rfl (Nat.le_of_ble_eq_true rfl) ⟨Nat.zero_le _, Nat.zero_le _⟩ dX6_again_52) (fun H locs hP hS => ?_)
          cases h
          exact kret_i C0 hP hD hS rfl dX6_again_55
      · have h := oc_t c3 h
        refine lv_bipush (v := (-3 : Int32)) hx hb dX6_again_22 (by decide) ?_
        cases h
        exact kret_i C0 hP hD hS rfl dX6_again_24
    · have h := oc_f c2 h
      refine lv_iconst (v := (-1 : Int32)) hx hb dX6_again_9 (by decide) ?_
      cases h
      exact kret_i C0 hP hD hS rfl dX6_again_10
abbrev rm_X6_count : Room := { frames := 4, cells := 0, slots := 0, locals := 94 }
noncomputable def f_X6_count (T_length : Int32) (F_glow : Int32) (F_spotCount : Int32) (F_pointCount : Int32) (F_wallCount : Int32) (F_across : Nat → Int32) (F_bareLight : Nat → Int32) (N_hung : Int32) (N_dead : Int32) (N_standing : Int32) (N_wants : Nat → Int32) (A_size : Int32) (S_size : Int32) (p1 : Int32) : Option (Int32) := if p1 = (0 : Int32) then (some T_length) else (if p1 = (1 : Int32) then (some F_spotCount) else (if p1 = (2 : Int32) then (some F_pointCount) else (if p1 = (3 : Int32) then (some F_wallCount) else (if p1 = (4 : Int32) then (some F_glow) else (if p1 = (5 : Int32) then (some N_hung) else (if p1 = (6 : Int32) then (some N_dead) else (if p1 = (7 : Int32) then (some N_standing) else (if p1 = (8 : Int32) then ((f_X2_live N_hung N_dead).bind (fun r11 => (f_X2_servedPoints N_wants F_glow F_spotCount F_pointCount F_across F_bareLight r11 N_standing).bind (fun r13 => some r13))) else (if p1 = (9 : Int32) then (some A_size) else (if p1 = (10 : Int32) then (some S_size) else (some (-2 : Int32))))))))))))
set_option maxHeartbeats 4000000 in
set_option maxRecDepth 100000 in
theorem c_X6_count (l : Launch) (D : va_G) (cI cC cZ : ClassId) (a_X a_X_doings a_T a_T_letters a_F a_F_table a_F_spots a_F_points a_F_walls a_F_across a_F_bareLight a_N a_N_wants a_R a_R_wants a_P a_P_wants a_Q a_Q_wants a_A a_A_kinds a_A_numbers a_A_befores a_S a_S_points a_S_values a_S_were a_Z a_Z_served a_Z_sums : Nat) (sz : Nat) (X_filledSlots : Int32) (X_theSeed : Int64) (X_doings : Nat → Int32) (T_length : Int32) (T_letters : Nat → Int32) (F_glow : Int32) (F_spotCount : Int32) (F_pointCount : Int32) (F_wallCount : Int32) (F_table : Nat → Int32) (F_spots : Nat → Int32) (F_points : Nat → Int32) (F_walls : Nat → Int32) (F_across : Nat → Int32) (F_bareLight : Nat → Int32) (N_hung : Int32) (N_dead : Int32) (N_standing : Int32) (N_wants : Nat → Int32) (R_hung : Int32) (R_dead : Int32) (R_standing : Int32) (R_wants : Nat → Int32) (P_hung : Int32) (P_dead : Int32) (P_standing : Int32) (P_wants : Nat → Int32) (Q_hung : Int32) (Q_dead : Int32) (Q_standing : Int32) (Q_wants : Nat → Int32) (A_size : Int32) (A_kinds : Nat → Int32) (A_numbers : Nat → Int32) (A_befores : Nat → Int32) (S_size : Int32) (S_points : Nat → Int32) (S_values : Nat → Int32) (S_were : Nat → Int32) (Z_served : Nat → Int32) (Z_sums : Nat → Int32) (p1 : Int32) (rr : Int32) (hf : f_X6_count T_length F_glow F_spotCount F_pointCount F_wallCount F_across F_bareLight N_hung N_dead N_standing N_wants A_size S_size p1 = some rr) : kMet l yX6_count cX6_count 2 (some .int) rm_X6_count D (kTY cI cC cZ) [.ref a_X, .int p1] (WD14 cI cC cZ a_X a_X_doings a_T a_T_letters a_F a_F_table a_F_spots a_F_points a_F_walls a_F_across a_F_bareLight a_N a_N_wants a_R a_R_wants a_P a_P_wants a_Q a_Q_wants a_A a_A_kinds a_A_numbers a_A_befores a_S a_S_points a_S_values a_S_were a_Z a_Z_served a_Z_sums X_filledSlots X_theSeed X_doings T_length T_letters F_glow F_spotCount F_pointCount F_wallCount F_table F_spots F_points F_walls F_across F_bareLight N_hung N_dead N_standing N_wants R_hung R_dead R_standing R_wants P_hung P_dead P_standing P_wants Q_hung Q_dead Q_standing Q_wants A_size A_kinds A_numbers A_befores S_size S_points S_values S_were Z_served Z_sums) sz (kQI D (kTY cI cC cZ) (va_A (WD14 cI cC cZ a_X a_X_doings a_T a_T_letters a_F a_F_table a_F_spots a_F_points a_F_walls a_F_across a_F_bareLight a_N a_N_wants a_R a_R_wants a_P a_P_wants a_Q a_Q_wants a_A a_A_kinds a_A_numbers a_A_befores a_S a_S_points a_S_values a_S_were a_Z a_Z_served a_Z_sums X_filledSlots X_theSeed X_doings T_length T_letters F_glow F_spotCount F_pointCount F_wallCount F_table F_spots F_points F_walls F_across F_bareLight N_hung N_dead N_standing N_wants R_hung R_dead R_standing R_wants P_hung P_dead P_standing P_wants Q_hung Q_dead Q_standing Q_wants A_size A_kinds A_numbers A_befores S_size S_points S_values S_were Z_served Z_sums) sz) rr (WD14 cI cC cZ a_X a_X_doings a_T a_T_letters a_F a_F_table a_F_spots a_F_points a_F_walls a_F_across a_F_bareLight a_N a_N_wants a_R a_R_wants a_P a_P_wants a_Q a_Q_wants a_A a_A_kinds a_A_numbers a_A_befores a_S a_S_points a_S_values a_S_were a_Z a_Z_served a_Z_sums X_filledSlots X_theSeed X_doings T_length T_letters F_glow F_spotCount F_pointCount F_wallCount F_table F_spots F_points F_walls F_across F_bareLight N_hung N_dead N_standing N_wants R_hung R_dead R_standing R_wants P_hung P_dead P_standing P_wants Q_hung Q_dead Q_standing Q_wants A_size A_kinds A_numbers A_befores S_size S_points S_values S_were Z_served Z_sums)) := by
  refine kEnter (lv := [(0, .ref a_X), (1, .int p1)]) (own := RX6) (by decide) rfl (Nat.le_of_ble_eq_true rfl) rfl ?_
  intro p e s m below meth c hsz C0 hP hD hS ls hl
  generalize (va_A (WD14 cI cC cZ a_X a_X_doings a_T a_T_letters a_F a_F_table a_F_spots a_F_points a_F_walls a_F_across a_F_bareLight a_N a_N_wants a_R a_R_wants a_P a_P_wants a_Q a_Q_wants a_A a_A_kinds a_A_numbers a_A_befores a_S a_S_points a_S_values a_S_were a_Z a_Z_served a_Z_sums X_filledSlots X_theSeed X_doings T_length T_letters F_glow F_spotCount F_pointCount F_wallCount F_table F_spots F_points F_walls F_across F_bareLight N_hung N_dead N_standing N_wants R_hung R_dead R_standing R_wants P_hung P_dead P_standing P_wants Q_hung Q_dead Q_standing Q_wants A_size A_kinds A_numbers A_befores S_size S_points S_values S_were Z_served Z_sums) sz) = A at C0 hD hS ⊢
  clear hsz hS
  obtain ⟨H, hHs⟩ : ∃ H : Heap, H = s.heap := ⟨_, rfl⟩
  have hS : va_S A s.heap H [] := by rw [hHs]; exact va_S.rf
  rw [← hHs] at hP ⊢
  obtain ⟨hx, hb, hr, hml, hown, hts, hK, hN, hA, hlocks, hF⟩ := id C0
  have h := hf
  unfold f_X6_count at h
  refine lv_iload_n hx hb dX6_count_0 rfl (lv_at hl 1 rfl) ?_
  by_cases c1 : p1 = (0 : Int32)
  · have h := oc_t c1 h
    refine lv_tableIn (tgt := 60) (off := 59) hx hb dX6_count_1 (by rw [c1]; decide) (by rw [c1]; decide) (by rw [c1]; rfl) (by decide) ?_
    refine lv_aload_n hx hb dX6_count_60 rfl (lv_at hl 0 rfl) ?_
    refine va_get (D := D) (ci := 6) (v := .ref a_T) (C := RX6) (T := TX6) (N := 12) hx hb hts inlX6 hown hK hP 0 rfl rfl 0 (by decide) (hts _ kw_16) (fun _ h9 => h9) rfl dX6_count_61 ?_
    refine va_getN (D := D) (ci := 5) (v := .int T_length) (C := RX5) (T := TX5) (N := 2) hx hb hts inlX5 hown hK hP 2 rfl rfl 1 (by decide) (va_Nw.use rfl (ks_f0 hN)) (fun _ h9 => h9) rfl dX6_count_64 ?_
    cases h
    exact kret_i C0 hP hD hS rfl dX6_count_67
  · have h := oc_f c1 h
    by_cases c2 : p1 = (1 : Int32)
    · have h := oc_t c2 h
      refine lv_tableIn (tgt := 68) (off := 67) hx hb dX6_count_1 (by rw [c2]; decide) (by rw [c2]; decide) (by rw [c2]; rfl) (by decide) ?_
      refine lv_aload_n hx hb dX6_count_68 rfl (lv_at hl 0 rfl) ?_
      refine va_get (D := D) (ci := 6) (v := .ref a_F) (C := RX6) (T := TX6) (N := 12) hx hb hts inlX6 hown hK hP 0 rfl rfl 1 (by decide) (hts _ kw_20) (fun _ h9 => h9) rfl dX6_count_69 ?_
      refine va_getN (D := D) (ci := 1) (v := .int F_spotCount) (C := RX1) (T := TX1) (N := 10) hx hb hts inlX1 hown hK hP 4 rfl rfl 7 (by decide) (va_Nw.use rfl (ks_f5 hN)) (fun _ h9 => h9) rfl dX6_count_72 ?_
      cases h
      exact kret_i C0 hP hD hS rfl dX6_count_75
    · have h := oc_f c2 h
      by_cases c3 : p1 = (2 : Int32)
      · have h := oc_t c3 h
        refine lv_tableIn (tgt := 76) (off := 75) hx hb dX6_count_1 (by rw [c3]; decide) (by rw [c3]; decide) (by rw [c3]; rfl) (by decide) ?_
        refine lv_aload_n hx hb dX6_count_76 rfl (lv_at hl 0 rfl) ?_
        refine va_get (D := D) (ci := 6) (v := .ref a_F) (C := RX6) (T := TX6) (N := 12) hx hb hts inlX6 hown hK hP 0 rfl rfl 1 (by decide) (hts _ kw_20) (fun _ h9 => h9) rfl dX6_count_77 ?_
        refine va_getN (D := D) (ci := 1) (v := .int F_pointCount) (C := RX1) (T := TX1) (N := 10) hx hb hts inlX1 hown hK hP 4 rfl rfl 8 (by decide) (va_Nw.use rfl (ks_f8 hN)) (fun _ h9 => h9) rfl dX6_count_80 ?_
        cases h
        exact kret_i C0 hP hD hS rfl dX6_count_83
      · have h := oc_f c3 h
        by_cases c4 : p1 = (3 : Int32)
        · have h := oc_t c4 h
          refine lv_tableIn (tgt := 84) (off := 83) hx hb dX6_count_1 (by rw [c4]; decide) (by rw [c4]; decide) (by rw [c4]; rfl) (by decide) ?_
          refine lv_aload_n hx hb dX6_count_84 rfl (lv_at hl 0 rfl) ?_
          refine va_get (D := D) (ci := 6) (v := .ref a_F) (C := RX6) (T := TX6) (N := 12) hx hb hts inlX6 hown hK hP 0 rfl rfl 1 (by decide) (hts _ kw_20) (fun _ h9 => h9) rfl dX6_count_85 ?_
          refine va_getN (D := D) (ci := 1) (v := .int F_wallCount) (C := RX1) (T := TX1) (N := 10) hx hb hts inlX1 hown hK hP 4 rfl rfl 9 (by decide) (va_Nw.use rfl (ks_f10 hN)) (fun _ h9 => h9) rfl dX6_count_88 ?_
          cases h
          exact kret_i C0 hP hD hS rfl dX6_count_91
        · have h := oc_f c4 h
          by_cases c5 : p1 = (4 : Int32)
          · have h := oc_t c5 h
            refine lv_tableIn (tgt := 92) (off := 91) hx hb dX6_count_1 (by rw [c5]; decide) (by rw [c5]; decide) (by rw [c5]; rfl) (by decide) ?_
            refine lv_aload_n hx hb dX6_count_92 rfl (lv_at hl 0 rfl) ?_
            refine va_get (D := D) (ci := 6) (v := .ref a_F) (C := RX6) (T := TX6) (N := 12) hx hb hts inlX6 hown hK hP 0 rfl rfl 1 (by decide) (hts _ kw_20) (fun _ h9 => h9) rfl dX6_count_93 ?_
            refine va_getN (D := D) (ci := 1) (v := .int F_glow) (C := RX1) (T := TX1) (N := 10) hx hb hts inlX1 hown hK hP 4 rfl rfl 6 (by decide) (va_Nw.use rfl (ks_f3 hN)) (fun _ h9 => h9) rfl dX6_count_96 ?_
            cases h
            exact kret_i C0 hP hD hS rfl dX6_count_99
          · have h := oc_f c5 h
            by_cases c6 : p1 = (5 : Int32)
            · have h := oc_t c6 h
              refine lv_tableIn (tgt := 100) (off := 99) hx hb dX6_count_1 (by rw [c6]; decide) (by rw [c6]; decide) (by rw [c6]; rfl) (by decide) ?_
              refine lv_aload_n hx hb dX6_count_100 rfl (lv_at hl 0 rfl) ?_
              refine va_get (D := D) (ci := 6) (v := .ref a_N) (C := RX6) (T := TX6) (N := 12) hx hb hts inlX6 hown hK hP 0 rfl rfl 2 (by decide) (hts _ kw_24) (fun _ h9 => h9) rfl dX6_count_101 ?_
              refine va_getN (D := D) (ci := 2) (v := .int N_hung) (C := RX2) (T := TX2) (N := 5) hx hb hts inlX2 hown hK hP 11 rfl rfl 2 (by decide) (va_Nw.use rfl (ks_f11 hN)) (fun _ h9 => h9) rfl dX6_count_104 ?_
              cases h
              exact kret_i C0 hP hD hS rfl dX6_count_107
            · have h := oc_f c6 h
              by_cases c7 : p1 = (6 : Int32)
              · have h := oc_t c7 h
                refine lv_tableIn (tgt := 108) (off := 107) hx hb dX6_count_1 (by rw [c7]; decide) (by rw [c7]; decide) (by rw [c7]; rfl) (by decide) ?_
                refine lv_aload_n hx hb dX6_count_108 rfl (lv_at hl 0 rfl) ?_
                refine va_get (D := D) (ci := 6) (v := .ref a_N) (C := RX6) (T := TX6) (N := 12) hx hb hts inlX6 hown hK hP 0 rfl rfl 2 (by decide) (hts _ kw_24) (fun _ h9 => h9) rfl dX6_count_109 ?_
                refine va_getN (D := D) (ci := 2) (v := .int N_dead) (C := RX2) (T := TX2) (N := 5) hx hb hts inlX2 hown hK hP 11 rfl rfl 3 (by decide) (va_Nw.use rfl (ks_f12 hN)) (fun _ h9 => h9) rfl dX6_count_112 ?_
                cases h
                exact kret_i C0 hP hD hS rfl dX6_count_115
              · have h := oc_f c7 h
                by_cases c8 : p1 = (7 : Int32)
                · have h := oc_t c8 h
                  refine lv_tableIn (tgt := 116) (off := 115) hx hb dX6_count_1 (by rw [c8]; decide) (by rw [c8]; decide) (by rw [c8]; rfl) (by decide) ?_
                  refine lv_aload_n hx hb dX6_count_116 rfl (lv_at hl 0 rfl) ?_
                  refine va_get (D := D) (ci := 6) (v := .ref a_N) (C := RX6) (T := TX6) (N := 12) hx hb hts inlX6 hown hK hP 0 rfl rfl 2 (by decide) (hts _ kw_24) (fun _ h9 => h9) rfl dX6_count_117 ?_
                  refine va_getN (D := D) (ci := 2) (v := .int N_standing) (C := RX2) (T := TX2) (N := 5) hx hb hts inlX2 hown hK hP 11 rfl rfl 4 (by decide) (va_Nw.use rfl (ks_f14 hN)) (fun _ h9 => h9) rfl dX6_count_120 ?_
                  cases h
                  exact kret_i C0 hP hD hS rfl dX6_count_123
                · have h := oc_f c8 h
                  by_cases c9 : p1 = (8 : Int32)
                  · have h := oc_t c9 h
                    refine lv_tableIn (tgt := 124) (off := 123) hx hb dX6_count_1 (by rw [c9]; decide) (by rw [c9]; decide) (by rw [c9]; rfl) (by decide) ?_
                    refine lv_aload_n hx hb dX6_count_124 rfl (lv_at hl 0 rfl) ?_
                    refine va_get (D := D) (ci := 6) (v := .ref a_N) (C := RX6) (T := TX6) (N := 12) hx hb hts inlX6 hown hK hP 0 rfl rfl 2 (by decide) (hts _ kw_24) (fun _ h9 => h9) rfl dX6_count_125 ?_
                    refine lv_aload_n hx hb dX6_count_128 rfl (lv_at hl 0 rfl) ?_
                    refine va_get (D := D) (ci := 6) (v := .ref a_N) (C := RX6) (T := TX6) (N := 12) hx hb hts inlX6 hown hK hP 0 rfl rfl 2 (by decide) (hts _ kw_24) (fun _ h9 => h9) rfl dX6_count_129 ?_
                    obtain ⟨r11, hc10, h⟩ := oc_bind h
                    refine kro_i (wc := (WD6 cI cC cZ a_N a_N_wants a_F a_F_table a_F_spots a_F_points a_F_walls a_F_across a_F_bareLight N_hung N_dead N_standing N_wants F_glow F_spotCount F_pointCount F_wallCount F_table F_spots F_points F_walls F_across F_bareLight)) C0 hP hD hS [11, 12, 4, 5, 6, 7, 8, 9, 10] rfl (kVN (n := 0) (As := []) (rest := [.ref a_N]) (wc := (WD6 cI cC cZ a_N a_N_wants a_F a_F_table a_F_spots a_F_points a_F_walls a_F_across a_F_bareLight N_hung N_dead N_standing N_wants F_glow F_spotCount F_pointCount F_wallCount F_table F_spots F_points F_walls F_across F_bareLight)) (C := RX2) C0 hP hD hS [11, 12, 4, 5, 6, 7, 8, 9, 10] rfl (by decide) (c_X2_live l D cI cC cZ a_N a_N_wants a_F a_F_table a_F_spots a_F_points a_F_walls a_F_across a_F_bareLight H.size N_hung N_dead N_standing N_wants F_glow F_spotCount F_pointCount F_wallCount F_table F_spots F_points F_walls F_across F_bareLight  r11 hc10) kw_313 (ks_m42 hN) kw_311 kw_312 kw_23 (by decide +kernel) (by decide) rfl rfl rfl hl.1 rfl (Nat.le_of_ble_eq_true rfl) ⟨Nat.zero_le _, Nat.zero_le _⟩ dX6_count_132) (fun H locs hP hS => ?_)
                    refine lv_aload_n hx hb dX6_count_135 rfl (lv_at hl 0 rfl) ?_
                    refine va_get (D := D) (ci := 6) (v := .ref a_N) (C := RX6) (T := TX6) (N := 12) hx hb hts inlX6 hown hK hP 0 rfl rfl 2 (by decide) (hts _ kw_24) (fun _ h9 => h9) rfl dX6_count_136 ?_
                    refine va_getN (D := D) (ci := 2) (v := .int N_standing) (C := RX2) (T := TX2) (N := 5) hx hb hts inlX2 hown hK hP 11 rfl rfl 4 (by decide) (va_Nw.use rfl (ks_f14 hN)) (fun _ h9 => h9) rfl dX6_count_139 ?_
                    obtain ⟨r13, hc12, h⟩ := oc_bind h
                    refine kro_i (wc := (WD6 cI cC cZ a_N a_N_wants a_F a_F_table a_F_spots a_F_points a_F_walls a_F_across a_F_bareLight N_hung N_dead N_standing N_wants F_glow F_spotCount F_pointCount F_wallCount F_table F_spots F_points F_walls F_across F_bareLight)) C0 hP hD hS [11, 12, 4, 5, 6, 7, 8, 9, 10] rfl (kVN (n := 2) (As := [.int r11, .int N_standing]) (rest := []) (wc := (WD6 cI cC cZ a_N a_N_wants a_F a_F_table a_F_spots a_F_points a_F_walls a_F_across a_F_bareLight N_hung N_dead N_standing N_wants F_glow F_spotCount F_pointCount F_wallCount F_table F_spots F_points F_walls F_across F_bareLight)) (C := RX2) C0 hP hD hS [11, 12, 4, 5, 6, 7, 8, 9, 10] rfl (by decide) (c_X2_servedPoints l D cI cC cZ a_N a_N_wants a_F a_F_table a_F_spots a_F_points a_F_walls a_F_across a_F_bareLight H.size N_hung N_dead N_standing N_wants F_glow F_spotCount F_pointCount F_wallCount F_table F_spots F_points F_walls F_across F_bareLight r11 N_standing r13 hc12) kw_568 (ks_m58 hN) kw_566 kw_567 kw_23 (by decide +kernel) (by decide) rfl rfl rfl hl.1 rfl (Nat.le_of_ble_eq_true rfl) ⟨Nat.zero_le _, Nat.zero_le _⟩ dX6_count_142) (fun H locs hP hS => ?_)
                    cases h
                    exact kret_i C0 hP hD hS rfl dX6_count_145
                  · have h := oc_f c9 h
                    by_cases c14 : p1 = (9 : Int32)
                    · have h := oc_t c14 h
                      refine lv_tableIn (tgt := 146) (off := 145) hx hb dX6_count_1 (by rw [c14]; decide) (by rw [c14]; decide) (by rw [c14]; rfl) (by decide) ?_
                      refine lv_aload_n hx hb dX6_count_146 rfl (lv_at hl 0 rfl) ?_
                      refine va_get (D := D) (ci := 6) (v := .ref a_A) (C := RX6) (T := TX6) (N := 12) hx hb hts inlX6 hown hK hP 0 rfl rfl 6 (by decide) (hts _ kw_31) (fun _ h9 => h9) rfl dX6_count_147 ?_
                      refine va_getN (D := D) (ci := 0) (v := .int A_size) (C := RX0) (T := TX0) (N := 4) hx hb hts inlX0 hown hK hP 19 rfl rfl 3 (by decide) (va_Nw.use rfl (ks_f15 hN)) (fun _ h9 => h9) rfl dX6_count_150 ?_
                      cases h
                      exact kret_i C0 hP hD hS rfl dX6_count_153
                    · have h := oc_f c14 h
                      by_cases c15 : p1 = (10 : Int32)
                      · have h := oc_t c15 h
                        refine lv_tableIn (tgt := 154) (off := 153) hx hb dX6_count_1 (by rw [c15]; decide) (by rw [c15]; decide) (by rw [c15]; rfl) (by decide) ?_
                        refine lv_aload_n hx hb dX6_count_154 rfl (lv_at hl 0 rfl) ?_
                        refine va_get (D := D) (ci := 6) (v := .ref a_S) (C := RX6) (T := TX6) (N := 12) hx hb hts inlX6 hown hK hP 0 rfl rfl 7 (by decide) (hts _ kw_35) (fun _ h9 => h9) rfl dX6_count_155 ?_
                        refine va_getN (D := D) (ci := 3) (v := .int S_size) (C := RX3) (T := TX3) (N := 4) hx hb hts inlX3 hown hK hP 23 rfl rfl 3 (by decide) (va_Nw.use rfl (ks_f16 hN)) (fun _ h9 => h9) rfl dX6_count_158 ?_
                        cases h
                        exact kret_i C0 hP hD hS rfl dX6_count_161
                      · have h := oc_f c15 h
                        refine lv_tableOut (tgt := 162) hx hb dX6_count_1 (by have n0 := lv_neT c1 (a := 0) (by decide); have n1 := lv_neT c2 (a := 1) (by decide); have n2 := lv_neT c3 (a := 2) (by decide); have n3 := lv_neT c4 (a := 3) (by decide); have n4 := lv_neT c5 (a := 4) (by decide); have n5 := lv_neT c6 (a := 5) (by decide); have n6 := lv_neT c7 (a := 6) (by decide); have n7 := lv_neT c8 (a := 7) (by decide); have n8 := lv_neT c9 (a := 8) (by decide); have n9 := lv_neT c14 (a := 9) (by decide); have n10 := lv_neT c15 (a := 10) (by decide); omega) (by decide) ?_
                        refine lv_bipush (v := (-2 : Int32)) hx hb dX6_count_162 (by decide) ?_
                        cases h
                        exact kret_i C0 hP hD hS rfl dX6_count_164
abbrev rm_X7_in : Room := { frames := 0, cells := 0, slots := 0, locals := 0 }
noncomputable def f_X7_in  (p0 : Int64) (p2 : Int64) (p4 : Int64) : Option (Int32) := if (lg_cmp p0 p2) < 0 then (some (0 : Int32)) else (if 0 < (lg_cmp p0 p4) then (some (0 : Int32)) else (some (1 : Int32)))
set_option maxHeartbeats 4000000 in
set_option maxRecDepth 100000 in
theorem c_X7_in (l : Launch) (D : va_G) (cI cC cZ : ClassId) (sz : Nat) (p0 : Int64) (p2 : Int64) (p4 : Int64) (rr : Int32) (hf : f_X7_in p0 p2 p4 = some rr) : kMet l yX7_in cX7_in 6 (some .boolean) rm_X7_in D (kTY cI cC cZ) [.long p0, .long p2, .long p4] (WD0 cI cC cZ) sz (kQI D (kTY cI cC cZ) (va_A (WD0 cI cC cZ) sz) rr (WD0 cI cC cZ)) := by
  refine kEnter (lv := [(0, .long p0), (2, .long p2), (4, .long p4)]) (own := RX7) (by decide) rfl (Nat.le_of_ble_eq_true rfl) rfl ?_
  intro p e s m below meth c hsz C0 hP hD hS ls hl
  generalize (va_A (WD0 cI cC cZ) sz) = A at C0 hD hS ⊢
  clear hsz hS
  obtain ⟨H, hHs⟩ : ∃ H : Heap, H = s.heap := ⟨_, rfl⟩
  have hS : va_S A s.heap H [] := by rw [hHs]; exact va_S.rf
  rw [← hHs] at hP ⊢
  obtain ⟨hx, hb, hr, hml, hown, hts, hK, hN, hA, hlocks, hF⟩ := id C0
  have h := hf
  unfold f_X7_in at h
  refine lv_lload_n hx hb dX7_in_0 rfl (lv_at hl 0 rfl) ?_
  refine lv_lload_n hx hb dX7_in_1 rfl (lv_at hl 1 rfl) ?_
  refine W.lcmp hx hb dX7_in_2 ?_
  refine lv_if_lt (tgt := 17) hx hb dX7_in_3 (by decide) (fun c1 => ?_) (fun c1 => ?_)
  · have h := oc_t c1 h
    refine lv_iconst (v := (0 : Int32)) hx hb dX7_in_17 (by decide) ?_
    cases h
    exact kret_i C0 hP hD hS (by decide) dX7_in_18
  · have h := oc_f c1 h
    refine lv_lload_n hx hb dX7_in_6 rfl (lv_at hl 0 rfl) ?_
    refine lv_lload hx hb dX7_in_7 (lv_at hl 2 rfl) ?_
    refine W.lcmp hx hb dX7_in_9 ?_
    refine lv_if_gt (tgt := 17) hx hb dX7_in_10 (by decide) (fun c2 => ?_) (fun c2 => ?_)
    · have h := oc_t c2 h
      refine lv_iconst (v := (0 : Int32)) hx hb dX7_in_17 (by decide) ?_
      cases h
      exact kret_i C0 hP hD hS (by decide) dX7_in_18
    · have h := oc_f c2 h
      refine lv_iconst (v := (1 : Int32)) hx hb dX7_in_13 (by decide) ?_
      refine lv_goto (tgt := 18) hx hb dX7_in_14 (by decide) ?_
      cases h
      exact kret_i C0 hP hD hS (by decide) dX7_in_18
abbrev rm_X7_has : Room := { frames := 0, cells := 0, slots := 0, locals := 0 }
noncomputable def f_X7_has  (p0 : Int32) (p1 : Int32) : Option (Int32) := if ((p0 >>> (p1 &&& 31)) &&& (1 : Int32)) = (1 : Int32) then (some (1 : Int32)) else (some (0 : Int32))
set_option maxHeartbeats 4000000 in
set_option maxRecDepth 100000 in
theorem c_X7_has (l : Launch) (D : va_G) (cI cC cZ : ClassId) (sz : Nat) (p0 : Int32) (p1 : Int32) (rr : Int32) (hf : f_X7_has p0 p1 = some rr) : kMet l yX7_has cX7_has 2 (some .boolean) rm_X7_has D (kTY cI cC cZ) [.int p0, .int p1] (WD0 cI cC cZ) sz (kQI D (kTY cI cC cZ) (va_A (WD0 cI cC cZ) sz) rr (WD0 cI cC cZ)) := by
  refine kEnter (lv := [(0, .int p0), (1, .int p1)]) (own := RX7) (by decide) rfl (Nat.le_of_ble_eq_true rfl) rfl ?_
  intro p e s m below meth c hsz C0 hP hD hS ls hl
  generalize (va_A (WD0 cI cC cZ) sz) = A at C0 hD hS ⊢
  clear hsz hS
  obtain ⟨H, hHs⟩ : ∃ H : Heap, H = s.heap := ⟨_, rfl⟩
  have hS : va_S A s.heap H [] := by rw [hHs]; exact va_S.rf
  rw [← hHs] at hP ⊢
  obtain ⟨hx, hb, hr, hml, hown, hts, hK, hN, hA, hlocks, hF⟩ := id C0
  have h := hf
  unfold f_X7_has at h
  refine lv_iload_n hx hb dX7_has_0 rfl (lv_at hl 0 rfl) ?_
  refine lv_iload_n hx hb dX7_has_1 rfl (lv_at hl 1 rfl) ?_
  refine lv_ishr hx hb dX7_has_2 ?_
  refine lv_iconst (v := (1 : Int32)) hx hb dX7_has_3 (by decide) ?_
  refine lv_iand hx hb dX7_has_4 ?_
  refine lv_iconst (v := (1 : Int32)) hx hb dX7_has_5 (by decide) ?_
  refine lv_icmp_ne (tgt := 13) hx hb dX7_has_6 (by decide) (fun c1 => ?_) (fun c1 => ?_)
  · have h := oc_f c1 h
    refine lv_iconst (v := (0 : Int32)) hx hb dX7_has_13 (by decide) ?_
    cases h
    exact kret_i C0 hP hD hS (by decide) dX7_has_14
  · have h := oc_t c1 h
    refine lv_iconst (v := (1 : Int32)) hx hb dX7_has_9 (by decide) ?_
    refine lv_goto (tgt := 14) hx hb dX7_has_10 (by decide) ?_
    cases h
    exact kret_i C0 hP hD hS (by decide) dX7_has_14
abbrev rm_X7_ones : Room := { frames := 0, cells := 0, slots := 0, locals := 0 }
noncomputable def bk_X7_ones_4 (k4 : Int32 → Int32 → Option (Int32)) (p0 : Int32) (p1 : Int32) (p2 : Int32) : Option (Int32) := if (8 : Int32) ≤ p2 then (some p1) else (nm_ (p1 + ((p0 >>> (p2 &&& 31)) &&& (1 : Int32))) (fun t2 => nm_ (p2 + (1 : Int32)) (fun t3 => k4 t2 t3)))
set_option maxHeartbeats 4000000 in
set_option maxRecDepth 100000 in
theorem wk_X7_ones_4 {p : Program} {l : Launch} {e : Env} {s : State} {m : MethodId} {args : Array Value} {below : List Frame} {meth : Method} {c : Code} {D : va_G} {cI cC cZ : ClassId} {A : Nat → Prop} {p0 : Int32} {p1 : Int32} {p2 : Int32} {k4 : Int32 → Int32 → Option (Int32)} {rr : Int32} (C0 : kC p s m args meth c D (kTY cI cC cZ) cX7_ones (some .int) 3 RX7 A) (hk4 : ∀ (p1_k : Int32) (p2_k : Int32), k4 p1_k p2_k = some rr → ∀ (H : Heap) (locs : List Loc), va_P D vwCl (WD0 cI cC cZ) H → va_D A (WD0 cI cC cZ) → va_S A s.heap H locs → ∀ ls : Array Slot, lv_has ls 3 [(0, .int p0), (1, .int p1_k), (2, .int p2_k)] → W p l e rm_X7_ones s m args below meth c H locs 0 0 (MQ below (kQI D (kTY cI cC cZ) A rr (WD0 cI cC cZ)) args s 0 0 A) (F0 m 4 ls [])) (h : bk_X7_ones_4 k4 p0 p1 p2 = some rr) {H : Heap} {locs : List Loc} (hP : va_P D vwCl (WD0 cI cC cZ) H) (hD : va_D A (WD0 cI cC cZ)) (hS : va_S A s.heap H locs) {ls : Array Slot} (hl : lv_has ls 3 [(0, .int p0), (1, .int p1), (2, .int p2)]) : W p l e rm_X7_ones s m args below meth c H locs 0 0 (MQ below (kQI D (kTY cI cC cZ) A rr (WD0 cI cC cZ)) args s 0 0 A) (F0 m 4 ls []) := by
  obtain ⟨hx, hb, hr, hml, hown, hts, hK, hN, hA, hlocks, hF⟩ := id C0
  unfold bk_X7_ones_4 at h
  refine lv_iload_n hx hb dX7_ones_4 rfl (lv_at hl 2 rfl) ?_
  refine lv_bipush (v := (8 : Int32)) hx hb dX7_ones_5 (by decide) ?_
  refine lv_icmp_ge (tgt := 24) hx hb dX7_ones_7 (by decide) (fun c1 => ?_) (fun c1 => ?_)
  · have h := oc_t c1 h
    refine lv_iload_n hx hb dX7_ones_24 rfl (lv_at hl 1 rfl) ?_
    cases h
    exact kret_i C0 hP hD hS rfl dX7_ones_25
  · have h := oc_f c1 h
    refine lv_iload_n hx hb dX7_ones_10 rfl (lv_at hl 1 rfl) ?_
    refine lv_iload_n hx hb dX7_ones_11 rfl (lv_at hl 0 rfl) ?_
    refine lv_iload_n hx hb dX7_ones_12 rfl (lv_at hl 2 rfl) ?_
    refine lv_ishr hx hb dX7_ones_13 ?_
    refine lv_iconst (v := (1 : Int32)) hx hb dX7_ones_14 (by decide) ?_
    refine lv_iand hx hb dX7_ones_15 ?_
    refine lv_iadd hx hb dX7_ones_16 ?_
    refine lv_topi (fun t2 e_t2 => ?_)
    have h := oc_nm e_t2 h
    refine lv_istore_n (lv' := [(1, .int t2), (0, .int p0), (2, .int p2)]) hx hb dX7_ones_17 rfl hl (by decide) rfl (fun ls hl => ?_)
    obtain ⟨t3, e_t3⟩ : ∃ y : Int32, y = p2 + (1 : Int32) := ⟨_, rfl⟩
    have h := oc_nm e_t3 h
    refine lv_iinc (v := t3) (lv' := [(2, .int t3), (1, .int t2), (0, .int p0)]) hx hb dX7_ones_18 hl (k := 2) rfl (by rw [e_t3]; rfl) (by decide) rfl (fun ls hl => ?_)
    refine lv_goto (tgt := 4) hx hb dX7_ones_21 (by decide) ?_
    exact hk4 _ _ h _ _ hP hD hS _ (lv_sub hl [2, 1, 0] rfl)
noncomputable def lp_X7_ones_4  (p0 : Int32) (n : Nat) : Int32 → Int32 → Option (Int32) := Nat.rec (motive := fun _ => Int32 → Int32 → Option (Int32)) (fun _ _ => none) (fun _ ih => bk_X7_ones_4  ih p0) n
set_option maxHeartbeats 4000000 in
set_option maxRecDepth 100000 in
theorem wl_X7_ones_4 {p : Program} {l : Launch} {e : Env} {s : State} {m : MethodId} {args : Array Value} {below : List Frame} {meth : Method} {c : Code} {D : va_G} {cI cC cZ : ClassId} {A : Nat → Prop} {p0 : Int32}  {rr : Int32} (C0 : kC p s m args meth c D (kTY cI cC cZ) cX7_ones (some .int) 3 RX7 A)  : ∀ (n : Nat) (p1 : Int32) (p2 : Int32), lp_X7_ones_4  p0 n p1 p2 = some rr → ∀ (H : Heap) (locs : List Loc), va_P D vwCl (WD0 cI cC cZ) H → va_D A (WD0 cI cC cZ) → va_S A s.heap H locs → ∀ ls : Array Slot, lv_has ls 3 [(0, .int p0), (1, .int p1), (2, .int p2)] → W p l e rm_X7_ones s m args below meth c H locs 0 0 (MQ below (kQI D (kTY cI cC cZ) A rr (WD0 cI cC cZ)) args s 0 0 A) (F0 m 4 ls []) := by
  intro n
  induction n with
  | zero => intro p1 p2 h; cases (show (none : Option (Int32)) = some _ from h)
  | succ n ih =>
    intro p1 p2 h H locs hP hD hS ls hl
    exact wk_X7_ones_4 C0  (fun p1 p2 h H locs hP hD hS ls hl => ih p1 p2 h H locs hP hD hS ls hl) (show bk_X7_ones_4  (lp_X7_ones_4  p0 n) p0 p1 p2 = some _ from h) hP hD hS hl
noncomputable def f_X7_ones  (p0 : Int32) : Option (Int32) := lp_X7_ones_4  p0 1000 (0 : Int32) (0 : Int32)
set_option maxHeartbeats 4000000 in
set_option maxRecDepth 100000 in
theorem c_X7_ones (l : Launch) (D : va_G) (cI cC cZ : ClassId) (sz : Nat) (p0 : Int32) (rr : Int32) (hf : f_X7_ones p0 = some rr) : kMet l yX7_ones cX7_ones 3 (some .int) rm_X7_ones D (kTY cI cC cZ) [.int p0] (WD0 cI cC cZ) sz (kQI D (kTY cI cC cZ) (va_A (WD0 cI cC cZ) sz) rr (WD0 cI cC cZ)) := by
  refine kEnter (lv := [(0, .int p0)]) (own := RX7) (by decide) rfl (Nat.le_of_ble_eq_true rfl) rfl ?_
  intro p e s m below meth c hsz C0 hP hD hS ls hl
  generalize (va_A (WD0 cI cC cZ) sz) = A at C0 hD hS ⊢
  clear hsz hS
  obtain ⟨H, hHs⟩ : ∃ H : Heap, H = s.heap := ⟨_, rfl⟩
  have hS : va_S A s.heap H [] := by rw [hHs]; exact va_S.rf
  rw [← hHs] at hP ⊢
  obtain ⟨hx, hb, hr, hml, hown, hts, hK, hN, hA, hlocks, hF⟩ := id C0
  have h := hf
  unfold f_X7_ones at h
  refine lv_iconst (v := (0 : Int32)) hx hb dX7_ones_0 (by decide) ?_
  refine lv_istore_n (lv' := [(1, .int (0 : Int32)), (0, .int p0)]) hx hb dX7_ones_1 rfl hl (by decide) rfl (fun ls hl => ?_)
  refine lv_iconst (v := (0 : Int32)) hx hb dX7_ones_2 (by decide) ?_
  refine lv_istore_n (lv' := [(2, .int (0 : Int32)), (1, .int (0 : Int32)), (0, .int p0)]) hx hb dX7_ones_3 rfl hl (by decide) rfl (fun ls hl => ?_)
  exact wl_X7_ones_4 C0  _ _ _ h _ _ hP hD hS _ (lv_sub hl [2, 1, 0] rfl)
abbrev rm_X7_power : Room := { frames := 0, cells := 0, slots := 0, locals := 0 }
noncomputable def bk_X7_power_4 (k4 : Int32 → Int32 → Option (Int32)) (p0 : Int32) (p1 : Int32) (p2 : Int32) (p3 : Int32) : Option (Int32) := if p1 ≤ p3 then (some p2) else (nm_ (p2 * p0) (fun t2 => nm_ (p3 + (1 : Int32)) (fun t3 => k4 t2 t3)))
set_option maxHeartbeats 4000000 in
set_option maxRecDepth 100000 in
theorem wk_X7_power_4 {p : Program} {l : Launch} {e : Env} {s : State} {m : MethodId} {args : Array Value} {below : List Frame} {meth : Method} {c : Code} {D : va_G} {cI cC cZ : ClassId} {A : Nat → Prop} {p0 : Int32} {p1 : Int32} {p2 : Int32} {p3 : Int32} {k4 : Int32 → Int32 → Option (Int32)} {rr : Int32} (C0 : kC p s m args meth c D (kTY cI cC cZ) cX7_power (some .int) 4 RX7 A) (hk4 : ∀ (p2_k : Int32) (p3_k : Int32), k4 p2_k p3_k = some rr → ∀ (H : Heap) (locs : List Loc), va_P D vwCl (WD0 cI cC cZ) H → va_D A (WD0 cI cC cZ) → va_S A s.heap H locs → ∀ ls : Array Slot, lv_has ls 4 [(0, .int p0), (1, .int p1), (2, .int p2_k), (3, .int p3_k)] → W p l e rm_X7_power s m args below meth c H locs 0 0 (MQ below (kQI D (kTY cI cC cZ) A rr (WD0 cI cC cZ)) args s 0 0 A) (F0 m 4 ls [])) (h : bk_X7_power_4 k4 p0 p1 p2 p3 = some rr) {H : Heap} {locs : List Loc} (hP : va_P D vwCl (WD0 cI cC cZ) H) (hD : va_D A (WD0 cI cC cZ)) (hS : va_S A s.heap H locs) {ls : Array Slot} (hl : lv_has ls 4 [(0, .int p0), (1, .int p1), (2, .int p2), (3, .int p3)]) : W p l e rm_X7_power s m args below meth c H locs 0 0 (MQ below (kQI D (kTY cI cC cZ) A rr (WD0 cI cC cZ)) args s 0 0 A) (F0 m 4 ls []) := by
  obtain ⟨hx, hb, hr, hml, hown, hts, hK, hN, hA, hlocks, hF⟩ := id C0
  unfold bk_X7_power_4 at h
  refine lv_iload_n hx hb dX7_power_4 rfl (lv_at hl 3 rfl) ?_
  refine lv_iload_n hx hb dX7_power_5 rfl (lv_at hl 1 rfl) ?_
  refine lv_icmp_ge (tgt := 19) hx hb dX7_power_6 (by decide) (fun c1 => ?_) (fun c1 => ?_)
  · have h := oc_t c1 h
    refine lv_iload_n hx hb dX7_power_19 rfl (lv_at hl 2 rfl) ?_
    cases h
    exact kret_i C0 hP hD hS rfl dX7_power_20
  · have h := oc_f c1 h
    refine lv_iload_n hx hb dX7_power_9 rfl (lv_at hl 2 rfl) ?_
    refine lv_iload_n hx hb dX7_power_10 rfl (lv_at hl 0 rfl) ?_
    refine lv_imul hx hb dX7_power_11 ?_
    refine lv_topi (fun t2 e_t2 => ?_)
    have h := oc_nm e_t2 h
    refine lv_istore_n (lv' := [(2, .int t2), (0, .int p0), (1, .int p1), (3, .int p3)]) hx hb dX7_power_12 rfl hl (by decide) rfl (fun ls hl => ?_)
    obtain ⟨t3, e_t3⟩ : ∃ y : Int32, y = p3 + (1 : Int32) := ⟨_, rfl⟩
    have h := oc_nm e_t3 h
    refine lv_iinc (v := t3) (lv' := [(3, .int t3), (2, .int t2), (0, .int p0), (1, .int p1)]) hx hb dX7_power_13 hl (k := 3) rfl (by rw [e_t3]; rfl) (by decide) rfl (fun ls hl => ?_)
    refine lv_goto (tgt := 4) hx hb dX7_power_16 (by decide) ?_
    exact hk4 _ _ h _ _ hP hD hS _ (lv_sub hl [2, 3, 1, 0] rfl)
noncomputable def lp_X7_power_4  (p0 : Int32) (p1 : Int32) (n : Nat) : Int32 → Int32 → Option (Int32) := Nat.rec (motive := fun _ => Int32 → Int32 → Option (Int32)) (fun _ _ => none) (fun _ ih => bk_X7_power_4  ih p0 p1) n
set_option maxHeartbeats 4000000 in
set_option maxRecDepth 100000 in
theorem wl_X7_power_4 {p : Program} {l : Launch} {e : Env} {s : State} {m : MethodId} {args : Array Value} {below : List Frame} {meth : Method} {c : Code} {D : va_G} {cI cC cZ : ClassId} {A : Nat → Prop} {p0 : Int32} {p1 : Int32}  {rr : Int32} (C0 : kC p s m args meth c D (kTY cI cC cZ) cX7_power (some .int) 4 RX7 A)  : ∀ (n : Nat) (p2 : Int32) (p3 : Int32), lp_X7_power_4  p0 p1 n p2 p3 = some rr → ∀ (H : Heap) (locs : List Loc), va_P D vwCl (WD0 cI cC cZ) H → va_D A (WD0 cI cC cZ) → va_S A s.heap H locs → ∀ ls : Array Slot, lv_has ls 4 [(0, .int p0), (1, .int p1), (2, .int p2), (3, .int p3)] → W p l e rm_X7_power s m args below meth c H locs 0 0 (MQ below (kQI D (kTY cI cC cZ) A rr (WD0 cI cC cZ)) args s 0 0 A) (F0 m 4 ls []) := by
  intro n
  induction n with
  | zero => intro p2 p3 h; cases (show (none : Option (Int32)) = some _ from h)
  | succ n ih =>
    intro p2 p3 h H locs hP hD hS ls hl
    exact wk_X7_power_4 C0  (fun p2 p3 h H locs hP hD hS ls hl => ih p2 p3 h H locs hP hD hS ls hl) (show bk_X7_power_4  (lp_X7_power_4  p0 p1 n) p0 p1 p2 p3 = some _ from h) hP hD hS hl
noncomputable def f_X7_power  (p0 : Int32) (p1 : Int32) : Option (Int32) := lp_X7_power_4  p0 p1 1000 (1 : Int32) (0 : Int32)
set_option maxHeartbeats 4000000 in
set_option maxRecDepth 100000 in
theorem c_X7_power (l : Launch) (D : va_G) (cI cC cZ : ClassId) (sz : Nat) (p0 : Int32) (p1 : Int32) (rr : Int32) (hf : f_X7_power p0 p1 = some rr) : kMet l yX7_power cX7_power 4 (some .int) rm_X7_power D (kTY cI cC cZ) [.int p0, .int p1] (WD0 cI cC cZ) sz (kQI D (kTY cI cC cZ) (va_A (WD0 cI cC cZ) sz) rr (WD0 cI cC cZ)) := by
  refine kEnter (lv := [(0, .int p0), (1, .int p1)]) (own := RX7) (by decide) rfl (Nat.le_of_ble_eq_true rfl) rfl ?_
  intro p e s m below meth c hsz C0 hP hD hS ls hl
  generalize (va_A (WD0 cI cC cZ) sz) = A at C0 hD hS ⊢
  clear hsz hS
  obtain ⟨H, hHs⟩ : ∃ H : Heap, H = s.heap := ⟨_, rfl⟩
  have hS : va_S A s.heap H [] := by rw [hHs]; exact va_S.rf
  rw [← hHs] at hP ⊢
  obtain ⟨hx, hb, hr, hml, hown, hts, hK, hN, hA, hlocks, hF⟩ := id C0
  have h := hf
  unfold f_X7_power at h
  refine lv_iconst (v := (1 : Int32)) hx hb dX7_power_0 (by decide) ?_
  refine lv_istore_n (lv' := [(2, .int (1 : Int32)), (0, .int p0), (1, .int p1)]) hx hb dX7_power_1 rfl hl (by decide) rfl (fun ls hl => ?_)
  refine lv_iconst (v := (0 : Int32)) hx hb dX7_power_2 (by decide) ?_
  refine lv_istore_n (lv' := [(3, .int (0 : Int32)), (2, .int (1 : Int32)), (0, .int p0), (1, .int p1)]) hx hb dX7_power_3 rfl hl (by decide) rfl (fun ls hl => ?_)
  exact wl_X7_power_4 C0  _ _ _ h _ _ hP hD hS _ (lv_sub hl [2, 3, 1, 0] rfl)
abbrev WD15 (cI cC cZ : ClassId) (a_U a_V : Nat) (U : Nat → Int32) (V : Nat → Int32) : va_W := [(a_U, .inl (cI, 9, .inl U)), (a_V, .inl (cI, 9, .inl V))]
abbrev rm_X7_copy : Room := { frames := 0, cells := 0, slots := 0, locals := 0 }
noncomputable def bk_X7_copy_2 (k2 : (Nat → Int32) → Int32 → Option ((Nat → Int32))) (U : Nat → Int32) (V : Nat → Int32) (p2 : Int32) : Option ((Nat → Int32)) := if (9 : Int32) ≤ p2 then (some V) else (if (p2 < 0 ∨ 9 ≤ Int32.toNatClampNeg p2) then none else (if (p2 < 0 ∨ 9 ≤ Int32.toNatClampNeg p2) then none else (nm_ (p2 + (1 : Int32)) (fun t4 => k2 (upd V (Int32.toNatClampNeg p2) (U (Int32.toNatClampNeg p2))) t4))))
set_option maxHeartbeats 4000000 in
set_option maxRecDepth 100000 in
theorem wk_X7_copy_2 {p : Program} {l : Launch} {e : Env} {s : State} {m : MethodId} {args : Array Value} {below : List Frame} {meth : Method} {c : Code} {D : va_G} {cI cC cZ : ClassId} {A : Nat → Prop} {a_U a_V : Nat} {U : Nat → Int32} {V : Nat → Int32} {p2 : Int32} {k2 : (Nat → Int32) → Int32 → Option ((Nat → Int32))} {u_V : Nat → Int32} (C0 : kC p s m args meth c D (kTY cI cC cZ) cX7_copy none 3 RX7 A) (hk2 : ∀ (V_k : Nat → Int32) (p2_k : Int32), k2 V_k p2_k = some u_V → ∀ (H : Heap) (locs : List Loc), va_P D vwCl (WD15 cI cC cZ a_U a_V U V_k) H → va_D A (WD15 cI cC cZ a_U a_V U V_k) → va_S A s.heap H locs → ∀ ls : Array Slot, lv_has ls 3 [(0, .ref a_U), (1, .ref a_V), (2, .int p2_k)] → W p l e rm_X7_copy s m args below meth c H locs 0 0 (MQ below (kQV D (kTY cI cC cZ) A (WD15 cI cC cZ a_U a_V U u_V)) args s 0 0 A) (F0 m 2 ls [])) (h : bk_X7_copy_2 k2 U V p2 = some u_V) {H : Heap} {locs : List Loc} (hP : va_P D vwCl (WD15 cI cC cZ a_U a_V U V) H) (hD : va_D A (WD15 cI cC cZ a_U a_V U V)) (hS : va_S A s.heap H locs) {ls : Array Slot} (hl : lv_has ls 3 [(0, .ref a_U), (1, .ref a_V), (2, .int p2)]) : W p l e rm_X7_copy s m args below meth c H locs 0 0 (MQ below (kQV D (kTY cI cC cZ) A (WD15 cI cC cZ a_U a_V U u_V)) args s 0 0 A) (F0 m 2 ls []) := by
  obtain ⟨hx, hb, hr, hml, hown, hts, hK, hN, hA, hlocks, hF⟩ := id C0
  unfold bk_X7_copy_2 at h
  refine lv_iload_n hx hb dX7_copy_2 rfl (lv_at hl 2 rfl) ?_
  refine lv_bipush (v := (9 : Int32)) hx hb dX7_copy_3 (by decide) ?_
  refine lv_icmp_ge (tgt := 20) hx hb dX7_copy_5 (by decide) (fun c1 => ?_) (fun c1 => ?_)
  · have h := oc_t c1 h
    cases h
    exact kret_v C0 hP hD hS dX7_copy_20
  · have h := oc_f c1 h
    refine lv_aload_n hx hb dX7_copy_8 rfl (lv_at hl 1 rfl) ?_
    refine lv_iload_n hx hb dX7_copy_9 rfl (lv_at hl 2 rfl) ?_
    refine lv_aload_n hx hb dX7_copy_10 rfl (lv_at hl 0 rfl) ?_
    refine lv_iload_n hx hb dX7_copy_11 rfl (lv_at hl 2 rfl) ?_
    obtain ⟨hb2, h⟩ := oc_else h
    refine va_iald hx hb hK hP 0 0 rfl rfl hb2 dX7_copy_12 ?_
    obtain ⟨hb3, h⟩ := oc_else h
    refine va_iast hx hb hK hP hD hS 1 0 rfl rfl hb3 dX7_copy_13 (fun H locs hP hD hS => ?_)
    have hP : va_P D vwCl (WD15 cI cC cZ a_U a_V U (upd V (Int32.toNatClampNeg p2) (U (Int32.toNatClampNeg p2)))) H := hP
    have hD : va_D A (WD15 cI cC cZ a_U a_V U (upd V (Int32.toNatClampNeg p2) (U (Int32.toNatClampNeg p2)))) := hD
    obtain ⟨t4, e_t4⟩ : ∃ y : Int32, y = p2 + (1 : Int32) := ⟨_, rfl⟩
    have h := oc_nm e_t4 h
    refine lv_iinc (v := t4) (lv' := [(2, .int t4), (0, .ref a_U), (1, .ref a_V)]) hx hb dX7_copy_14 hl (k := 2) rfl (by rw [e_t4]; rfl) (by decide) rfl (fun ls hl => ?_)
    refine lv_goto (tgt := 2) hx hb dX7_copy_17 (by decide) ?_
    exact hk2 _ _ h _ _ hP hD hS _ (lv_sub hl [1, 2, 0] rfl)
noncomputable def lp_X7_copy_2  (U : Nat → Int32) (n : Nat) : (Nat → Int32) → Int32 → Option ((Nat → Int32)) := Nat.rec (motive := fun _ => (Nat → Int32) → Int32 → Option ((Nat → Int32))) (fun _ _ => none) (fun _ ih => bk_X7_copy_2  ih U) n
set_option maxHeartbeats 4000000 in
set_option maxRecDepth 100000 in
theorem wl_X7_copy_2 {p : Program} {l : Launch} {e : Env} {s : State} {m : MethodId} {args : Array Value} {below : List Frame} {meth : Method} {c : Code} {D : va_G} {cI cC cZ : ClassId} {A : Nat → Prop} {a_U a_V : Nat} {U : Nat → Int32}  {u_V : Nat → Int32} (C0 : kC p s m args meth c D (kTY cI cC cZ) cX7_copy none 3 RX7 A)  : ∀ (n : Nat) (V : Nat → Int32) (p2 : Int32), lp_X7_copy_2  U n V p2 = some u_V → ∀ (H : Heap) (locs : List Loc), va_P D vwCl (WD15 cI cC cZ a_U a_V U V) H → va_D A (WD15 cI cC cZ a_U a_V U V) → va_S A s.heap H locs → ∀ ls : Array Slot, lv_has ls 3 [(0, .ref a_U), (1, .ref a_V), (2, .int p2)] → W p l e rm_X7_copy s m args below meth c H locs 0 0 (MQ below (kQV D (kTY cI cC cZ) A (WD15 cI cC cZ a_U a_V U u_V)) args s 0 0 A) (F0 m 2 ls []) := by
  intro n
  induction n with
  | zero => intro V p2 h; cases (show (none : Option ((Nat → Int32))) = some _ from h)
  | succ n ih =>
    intro V p2 h H locs hP hD hS ls hl
    exact wk_X7_copy_2 C0  (fun V p2 h H locs hP hD hS ls hl => ih V p2 h H locs hP hD hS ls hl) (show bk_X7_copy_2  (lp_X7_copy_2  U n) U V p2 = some _ from h) hP hD hS hl
noncomputable def f_X7_copy (U : Nat → Int32) (V : Nat → Int32)  : Option ((Nat → Int32)) := lp_X7_copy_2  U 1000 V (0 : Int32)
set_option maxHeartbeats 4000000 in
set_option maxRecDepth 100000 in
theorem c_X7_copy (l : Launch) (D : va_G) (cI cC cZ : ClassId) (a_U a_V : Nat) (sz : Nat) (U : Nat → Int32) (V : Nat → Int32) (u_V : Nat → Int32) (hf : f_X7_copy U V = some u_V) : kMet l yX7_copy cX7_copy 3 none rm_X7_copy D (kTY cI cC cZ) [.ref a_U, .ref a_V] (WD15 cI cC cZ a_U a_V U V) sz (kQV D (kTY cI cC cZ) (va_A (WD15 cI cC cZ a_U a_V U V) sz) (WD15 cI cC cZ a_U a_V U u_V)) := by
  refine kEnter (lv := [(0, .ref a_U), (1, .ref a_V)]) (own := RX7) (by decide) rfl (Nat.le_of_ble_eq_true rfl) rfl ?_
  intro p e s m below meth c hsz C0 hP hD hS ls hl
  generalize (va_A (WD15 cI cC cZ a_U a_V U V) sz) = A at C0 hD hS ⊢
  clear hsz hS
  obtain ⟨H, hHs⟩ : ∃ H : Heap, H = s.heap := ⟨_, rfl⟩
  have hS : va_S A s.heap H [] := by rw [hHs]; exact va_S.rf
  rw [← hHs] at hP ⊢
  obtain ⟨hx, hb, hr, hml, hown, hts, hK, hN, hA, hlocks, hF⟩ := id C0
  have h := hf
  unfold f_X7_copy at h
  refine lv_iconst (v := (0 : Int32)) hx hb dX7_copy_0 (by decide) ?_
  refine lv_istore_n (lv' := [(2, .int (0 : Int32)), (0, .ref a_U), (1, .ref a_V)]) hx hb dX7_copy_1 rfl hl (by decide) rfl (fun ls hl => ?_)
  exact wl_X7_copy_2 C0  _ _ _ h _ _ hP hD hS _ (lv_sub hl [1, 2, 0] rfl)
abbrev WD16 (cI cC cZ : ClassId) (a_M a_M_text a_M_plan a_M_read a_M_readPage a_M_page a_M_trial a_M_book a_M_kept a_M_isKept a_M_seenPoint a_M_seenSum a_M_seenWas : Nat) (M_thrown : Int32) (M_textSize : Int32) (M_place : Int32) (M_doings : Int32) (M_seen : Int32) (M_seed : Int64) (M_bestSet : Int32) (M_text : Nat → Int32) (M_plan : Nat → Int32) (M_read : Nat → Int32) (M_readPage : Nat → Int32) (M_page : Nat → Int32) (M_trial : Nat → Int32) (M_book : Nat → Int32) (M_kept : Nat → Int32) (M_isKept : Nat → Int32) (M_seenPoint : Nat → Int32) (M_seenSum : Nat → Int32) (M_seenWas : Nat → Int32) : va_W := [(a_M, .inr (7, [.int M_thrown, .ref a_M_text, .int M_textSize, .int M_place, .ref a_M_plan, .ref a_M_read, .ref a_M_readPage, .ref a_M_page, .ref a_M_trial, .ref a_M_book, .int M_doings, .ref a_M_kept, .ref a_M_isKept, .int M_seen, .ref a_M_seenPoint, .ref a_M_seenSum, .ref a_M_seenWas, .long M_seed, .int M_bestSet])), (a_M_text, .inl (cI, 99, .inl M_text)), (a_M_plan, .inl (cI, 78, .inl M_plan)), (a_M_read, .inl (cI, 78, .inl M_read)), (a_M_readPage, .inl (cI, 9, .inl M_readPage)), (a_M_page, .inl (cI, 9, .inl M_page)), (a_M_trial, .inl (cI, 9, .inl M_trial)), (a_M_book, .inl (cI, 126, .inl M_book)), (a_M_kept, .inl (cI, 18, .inl M_kept)), (a_M_isKept, .inl (cZ, 2, .inl M_isKept)), (a_M_seenPoint, .inl (cI, 6, .inl M_seenPoint)), (a_M_seenSum, .inl (cI, 6, .inl M_seenSum)), (a_M_seenWas, .inl (cI, 6, .inl M_seenWas))]
abbrev rm_X7_spots : Room := { frames := 0, cells := 0, slots := 0, locals := 0 }
noncomputable def f_X7_spots (M_plan : Nat → Int32)  : Option (Int32) := some (M_plan (Int32.toNatClampNeg (11 : Int32)))
set_option maxHeartbeats 4000000 in
set_option maxRecDepth 100000 in
theorem c_X7_spots (l : Launch) (D : va_G) (cI cC cZ : ClassId) (a_M a_M_text a_M_plan a_M_read a_M_readPage a_M_page a_M_trial a_M_book a_M_kept a_M_isKept a_M_seenPoint a_M_seenSum a_M_seenWas : Nat) (sz : Nat) (M_thrown : Int32) (M_textSize : Int32) (M_place : Int32) (M_doings : Int32) (M_seen : Int32) (M_seed : Int64) (M_bestSet : Int32) (M_text : Nat → Int32) (M_plan : Nat → Int32) (M_read : Nat → Int32) (M_readPage : Nat → Int32) (M_page : Nat → Int32) (M_trial : Nat → Int32) (M_book : Nat → Int32) (M_kept : Nat → Int32) (M_isKept : Nat → Int32) (M_seenPoint : Nat → Int32) (M_seenSum : Nat → Int32) (M_seenWas : Nat → Int32) (rr : Int32) (hf : f_X7_spots M_plan = some rr) : kMet l yX7_spots cX7_spots 1 (some .int) rm_X7_spots D (kTY cI cC cZ) [.ref a_M] (WD16 cI cC cZ a_M a_M_text a_M_plan a_M_read a_M_readPage a_M_page a_M_trial a_M_book a_M_kept a_M_isKept a_M_seenPoint a_M_seenSum a_M_seenWas M_thrown M_textSize M_place M_doings M_seen M_seed M_bestSet M_text M_plan M_read M_readPage M_page M_trial M_book M_kept M_isKept M_seenPoint M_seenSum M_seenWas) sz (kQI D (kTY cI cC cZ) (va_A (WD16 cI cC cZ a_M a_M_text a_M_plan a_M_read a_M_readPage a_M_page a_M_trial a_M_book a_M_kept a_M_isKept a_M_seenPoint a_M_seenSum a_M_seenWas M_thrown M_textSize M_place M_doings M_seen M_seed M_bestSet M_text M_plan M_read M_readPage M_page M_trial M_book M_kept M_isKept M_seenPoint M_seenSum M_seenWas) sz) rr (WD16 cI cC cZ a_M a_M_text a_M_plan a_M_read a_M_readPage a_M_page a_M_trial a_M_book a_M_kept a_M_isKept a_M_seenPoint a_M_seenSum a_M_seenWas M_thrown M_textSize M_place M_doings M_seen M_seed M_bestSet M_text M_plan M_read M_readPage M_page M_trial M_book M_kept M_isKept M_seenPoint M_seenSum M_seenWas)) := by
  refine kEnter (lv := [(0, .ref a_M)]) (own := RX7) (by decide) rfl (Nat.le_of_ble_eq_true rfl) rfl ?_
  intro p e s m below meth c hsz C0 hP hD hS ls hl
  generalize (va_A (WD16 cI cC cZ a_M a_M_text a_M_plan a_M_read a_M_readPage a_M_page a_M_trial a_M_book a_M_kept a_M_isKept a_M_seenPoint a_M_seenSum a_M_seenWas M_thrown M_textSize M_place M_doings M_seen M_seed M_bestSet M_text M_plan M_read M_readPage M_page M_trial M_book M_kept M_isKept M_seenPoint M_seenSum M_seenWas) sz) = A at C0 hD hS ⊢
  clear hsz hS
  obtain ⟨H, hHs⟩ : ∃ H : Heap, H = s.heap := ⟨_, rfl⟩
  have hS : va_S A s.heap H [] := by rw [hHs]; exact va_S.rf
  rw [← hHs] at hP ⊢
  obtain ⟨hx, hb, hr, hml, hown, hts, hK, hN, hA, hlocks, hF⟩ := id C0
  have h := hf
  unfold f_X7_spots at h
  refine lv_aload_n hx hb dX7_spots_0 rfl (lv_at hl 0 rfl) ?_
  refine va_get (D := D) (ci := 7) (v := .ref a_M_plan) (C := RX7) (T := TX7) (N := 19) hx hb hts inlX7 hown hK hP 0 rfl rfl 4 (by decide) (hts _ kw_85) (fun _ h9 => h9) rfl dX7_spots_1 ?_
  refine lv_bipush (v := (11 : Int32)) hx hb dX7_spots_4 (by decide) ?_
  refine va_iald hx hb hK hP 2 0 rfl rfl (show ¬ ((11 : Int32) < 0 ∨ 78 ≤ Int32.toNatClampNeg (11 : Int32)) by decide) dX7_spots_6 ?_
  cases h
  exact kret_i C0 hP hD hS rfl dX7_spots_7
abbrev rm_X7_points : Room := { frames := 0, cells := 0, slots := 0, locals := 0 }
noncomputable def f_X7_points (M_plan : Nat → Int32)  : Option (Int32) := some (M_plan (Int32.toNatClampNeg (12 : Int32)))
set_option maxHeartbeats 4000000 in
set_option maxRecDepth 100000 in
theorem c_X7_points (l : Launch) (D : va_G) (cI cC cZ : ClassId) (a_M a_M_text a_M_plan a_M_read a_M_readPage a_M_page a_M_trial a_M_book a_M_kept a_M_isKept a_M_seenPoint a_M_seenSum a_M_seenWas : Nat) (sz : Nat) (M_thrown : Int32) (M_textSize : Int32) (M_place : Int32) (M_doings : Int32) (M_seen : Int32) (M_seed : Int64) (M_bestSet : Int32) (M_text : Nat → Int32) (M_plan : Nat → Int32) (M_read : Nat → Int32) (M_readPage : Nat → Int32) (M_page : Nat → Int32) (M_trial : Nat → Int32) (M_book : Nat → Int32) (M_kept : Nat → Int32) (M_isKept : Nat → Int32) (M_seenPoint : Nat → Int32) (M_seenSum : Nat → Int32) (M_seenWas : Nat → Int32) (rr : Int32) (hf : f_X7_points M_plan = some rr) : kMet l yX7_points cX7_points 1 (some .int) rm_X7_points D (kTY cI cC cZ) [.ref a_M] (WD16 cI cC cZ a_M a_M_text a_M_plan a_M_read a_M_readPage a_M_page a_M_trial a_M_book a_M_kept a_M_isKept a_M_seenPoint a_M_seenSum a_M_seenWas M_thrown M_textSize M_place M_doings M_seen M_seed M_bestSet M_text M_plan M_read M_readPage M_page M_trial M_book M_kept M_isKept M_seenPoint M_seenSum M_seenWas) sz (kQI D (kTY cI cC cZ) (va_A (WD16 cI cC cZ a_M a_M_text a_M_plan a_M_read a_M_readPage a_M_page a_M_trial a_M_book a_M_kept a_M_isKept a_M_seenPoint a_M_seenSum a_M_seenWas M_thrown M_textSize M_place M_doings M_seen M_seed M_bestSet M_text M_plan M_read M_readPage M_page M_trial M_book M_kept M_isKept M_seenPoint M_seenSum M_seenWas) sz) rr (WD16 cI cC cZ a_M a_M_text a_M_plan a_M_read a_M_readPage a_M_page a_M_trial a_M_book a_M_kept a_M_isKept a_M_seenPoint a_M_seenSum a_M_seenWas M_thrown M_textSize M_place M_doings M_seen M_seed M_bestSet M_text M_plan M_read M_readPage M_page M_trial M_book M_kept M_isKept M_seenPoint M_seenSum M_seenWas)) := by
  refine kEnter (lv := [(0, .ref a_M)]) (own := RX7) (by decide) rfl (Nat.le_of_ble_eq_true rfl) rfl ?_
  intro p e s m below meth c hsz C0 hP hD hS ls hl
  generalize (va_A (WD16 cI cC cZ a_M a_M_text a_M_plan a_M_read a_M_readPage a_M_page a_M_trial a_M_book a_M_kept a_M_isKept a_M_seenPoint a_M_seenSum a_M_seenWas M_thrown M_textSize M_place M_doings M_seen M_seed M_bestSet M_text M_plan M_read M_readPage M_page M_trial M_book M_kept M_isKept M_seenPoint M_seenSum M_seenWas) sz) = A at C0 hD hS ⊢
  clear hsz hS
  obtain ⟨H, hHs⟩ : ∃ H : Heap, H = s.heap := ⟨_, rfl⟩
  have hS : va_S A s.heap H [] := by rw [hHs]; exact va_S.rf
  rw [← hHs] at hP ⊢
  obtain ⟨hx, hb, hr, hml, hown, hts, hK, hN, hA, hlocks, hF⟩ := id C0
  have h := hf
  unfold f_X7_points at h
  refine lv_aload_n hx hb dX7_points_0 rfl (lv_at hl 0 rfl) ?_
  refine va_get (D := D) (ci := 7) (v := .ref a_M_plan) (C := RX7) (T := TX7) (N := 19) hx hb hts inlX7 hown hK hP 0 rfl rfl 4 (by decide) (hts _ kw_85) (fun _ h9 => h9) rfl dX7_points_1 ?_
  refine lv_bipush (v := (12 : Int32)) hx hb dX7_points_4 (by decide) ?_
  refine va_iald hx hb hK hP 2 0 rfl rfl (show ¬ ((12 : Int32) < 0 ∨ 78 ≤ Int32.toNatClampNeg (12 : Int32)) by decide) dX7_points_6 ?_
  cases h
  exact kret_i C0 hP hD hS rfl dX7_points_7
abbrev rm_X7_walls : Room := { frames := 0, cells := 0, slots := 0, locals := 0 }
noncomputable def f_X7_walls (M_plan : Nat → Int32)  : Option (Int32) := some (M_plan (Int32.toNatClampNeg (13 : Int32)))
set_option maxHeartbeats 4000000 in
set_option maxRecDepth 100000 in
theorem c_X7_walls (l : Launch) (D : va_G) (cI cC cZ : ClassId) (a_M a_M_text a_M_plan a_M_read a_M_readPage a_M_page a_M_trial a_M_book a_M_kept a_M_isKept a_M_seenPoint a_M_seenSum a_M_seenWas : Nat) (sz : Nat) (M_thrown : Int32) (M_textSize : Int32) (M_place : Int32) (M_doings : Int32) (M_seen : Int32) (M_seed : Int64) (M_bestSet : Int32) (M_text : Nat → Int32) (M_plan : Nat → Int32) (M_read : Nat → Int32) (M_readPage : Nat → Int32) (M_page : Nat → Int32) (M_trial : Nat → Int32) (M_book : Nat → Int32) (M_kept : Nat → Int32) (M_isKept : Nat → Int32) (M_seenPoint : Nat → Int32) (M_seenSum : Nat → Int32) (M_seenWas : Nat → Int32) (rr : Int32) (hf : f_X7_walls M_plan = some rr) : kMet l yX7_walls cX7_walls 1 (some .int) rm_X7_walls D (kTY cI cC cZ) [.ref a_M] (WD16 cI cC cZ a_M a_M_text a_M_plan a_M_read a_M_readPage a_M_page a_M_trial a_M_book a_M_kept a_M_isKept a_M_seenPoint a_M_seenSum a_M_seenWas M_thrown M_textSize M_place M_doings M_seen M_seed M_bestSet M_text M_plan M_read M_readPage M_page M_trial M_book M_kept M_isKept M_seenPoint M_seenSum M_seenWas) sz (kQI D (kTY cI cC cZ) (va_A (WD16 cI cC cZ a_M a_M_text a_M_plan a_M_read a_M_readPage a_M_page a_M_trial a_M_book a_M_kept a_M_isKept a_M_seenPoint a_M_seenSum a_M_seenWas M_thrown M_textSize M_place M_doings M_seen M_seed M_bestSet M_text M_plan M_read M_readPage M_page M_trial M_book M_kept M_isKept M_seenPoint M_seenSum M_seenWas) sz) rr (WD16 cI cC cZ a_M a_M_text a_M_plan a_M_read a_M_readPage a_M_page a_M_trial a_M_book a_M_kept a_M_isKept a_M_seenPoint a_M_seenSum a_M_seenWas M_thrown M_textSize M_place M_doings M_seen M_seed M_bestSet M_text M_plan M_read M_readPage M_page M_trial M_book M_kept M_isKept M_seenPoint M_seenSum M_seenWas)) := by
  refine kEnter (lv := [(0, .ref a_M)]) (own := RX7) (by decide) rfl (Nat.le_of_ble_eq_true rfl) rfl ?_
  intro p e s m below meth c hsz C0 hP hD hS ls hl
  generalize (va_A (WD16 cI cC cZ a_M a_M_text a_M_plan a_M_read a_M_readPage a_M_page a_M_trial a_M_book a_M_kept a_M_isKept a_M_seenPoint a_M_seenSum a_M_seenWas M_thrown M_textSize M_place M_doings M_seen M_seed M_bestSet M_text M_plan M_read M_readPage M_page M_trial M_book M_kept M_isKept M_seenPoint M_seenSum M_seenWas) sz) = A at C0 hD hS ⊢
  clear hsz hS
  obtain ⟨H, hHs⟩ : ∃ H : Heap, H = s.heap := ⟨_, rfl⟩
  have hS : va_S A s.heap H [] := by rw [hHs]; exact va_S.rf
  rw [← hHs] at hP ⊢
  obtain ⟨hx, hb, hr, hml, hown, hts, hK, hN, hA, hlocks, hF⟩ := id C0
  have h := hf
  unfold f_X7_walls at h
  refine lv_aload_n hx hb dX7_walls_0 rfl (lv_at hl 0 rfl) ?_
  refine va_get (D := D) (ci := 7) (v := .ref a_M_plan) (C := RX7) (T := TX7) (N := 19) hx hb hts inlX7 hown hK hP 0 rfl rfl 4 (by decide) (hts _ kw_85) (fun _ h9 => h9) rfl dX7_walls_1 ?_
  refine lv_bipush (v := (13 : Int32)) hx hb dX7_walls_4 (by decide) ?_
  refine va_iald hx hb hK hP 2 0 rfl rfl (show ¬ ((13 : Int32) < 0 ∨ 78 ≤ Int32.toNatClampNeg (13 : Int32)) by decide) dX7_walls_6 ?_
  cases h
  exact kret_i C0 hP hD hS rfl dX7_walls_7
abbrev rm_X7_noSpot : Room := { frames := 1, cells := 0, slots := 0, locals := 25 }
noncomputable def f_X7_noSpot (M_plan : Nat → Int32) (p1 : Int32) : Option (Int32) := (f_X7_spots M_plan).bind (fun r2 => (f_X7_in (Int32.toInt64 p1) (0 : Int64) (Int32.toInt64 (r2 - (1 : Int32)))).bind (fun r4 => if r4 = 0 then (some (1 : Int32)) else (some (0 : Int32))))
set_option maxHeartbeats 4000000 in
set_option maxRecDepth 100000 in
theorem c_X7_noSpot (l : Launch) (D : va_G) (cI cC cZ : ClassId) (a_M a_M_text a_M_plan a_M_read a_M_readPage a_M_page a_M_trial a_M_book a_M_kept a_M_isKept a_M_seenPoint a_M_seenSum a_M_seenWas : Nat) (sz : Nat) (M_thrown : Int32) (M_textSize : Int32) (M_place : Int32) (M_doings : Int32) (M_seen : Int32) (M_seed : Int64) (M_bestSet : Int32) (M_text : Nat → Int32) (M_plan : Nat → Int32) (M_read : Nat → Int32) (M_readPage : Nat → Int32) (M_page : Nat → Int32) (M_trial : Nat → Int32) (M_book : Nat → Int32) (M_kept : Nat → Int32) (M_isKept : Nat → Int32) (M_seenPoint : Nat → Int32) (M_seenSum : Nat → Int32) (M_seenWas : Nat → Int32) (p1 : Int32) (rr : Int32) (hf : f_X7_noSpot M_plan p1 = some rr) : kMet l yX7_noSpot cX7_noSpot 2 (some .boolean) rm_X7_noSpot D (kTY cI cC cZ) [.ref a_M, .int p1] (WD16 cI cC cZ a_M a_M_text a_M_plan a_M_read a_M_readPage a_M_page a_M_trial a_M_book a_M_kept a_M_isKept a_M_seenPoint a_M_seenSum a_M_seenWas M_thrown M_textSize M_place M_doings M_seen M_seed M_bestSet M_text M_plan M_read M_readPage M_page M_trial M_book M_kept M_isKept M_seenPoint M_seenSum M_seenWas) sz (kQI D (kTY cI cC cZ) (va_A (WD16 cI cC cZ a_M a_M_text a_M_plan a_M_read a_M_readPage a_M_page a_M_trial a_M_book a_M_kept a_M_isKept a_M_seenPoint a_M_seenSum a_M_seenWas M_thrown M_textSize M_place M_doings M_seen M_seed M_bestSet M_text M_plan M_read M_readPage M_page M_trial M_book M_kept M_isKept M_seenPoint M_seenSum M_seenWas) sz) rr (WD16 cI cC cZ a_M a_M_text a_M_plan a_M_read a_M_readPage a_M_page a_M_trial a_M_book a_M_kept a_M_isKept a_M_seenPoint a_M_seenSum a_M_seenWas M_thrown M_textSize M_place M_doings M_seen M_seed M_bestSet M_text M_plan M_read M_readPage M_page M_trial M_book M_kept M_isKept M_seenPoint M_seenSum M_seenWas)) := by
  refine kEnter (lv := [(0, .ref a_M), (1, .int p1)]) (own := RX7) (by decide) rfl (Nat.le_of_ble_eq_true rfl) rfl ?_
  intro p e s m below meth c hsz C0 hP hD hS ls hl
  generalize (va_A (WD16 cI cC cZ a_M a_M_text a_M_plan a_M_read a_M_readPage a_M_page a_M_trial a_M_book a_M_kept a_M_isKept a_M_seenPoint a_M_seenSum a_M_seenWas M_thrown M_textSize M_place M_doings M_seen M_seed M_bestSet M_text M_plan M_read M_readPage M_page M_trial M_book M_kept M_isKept M_seenPoint M_seenSum M_seenWas) sz) = A at C0 hD hS ⊢
  clear hsz hS
  obtain ⟨H, hHs⟩ : ∃ H : Heap, H = s.heap := ⟨_, rfl⟩
  have hS : va_S A s.heap H [] := by rw [hHs]; exact va_S.rf
  rw [← hHs] at hP ⊢
  obtain ⟨hx, hb, hr, hml, hown, hts, hK, hN, hA, hlocks, hF⟩ := id C0
  have h := hf
  unfold f_X7_noSpot at h
  refine lv_iload_n hx hb dX7_noSpot_0 rfl (lv_at hl 1 rfl) ?_
  refine lv_i2l hx hb dX7_noSpot_1 rfl ?_
  refine lv_lconst (v := (0 : Int64)) hx hb dX7_noSpot_2 (by decide) ?_
  refine lv_aload_n hx hb dX7_noSpot_3 rfl (lv_at hl 0 rfl) ?_
  obtain ⟨r2, hc1, h⟩ := oc_bind h
  refine kro_i (wc := (WD16 cI cC cZ a_M a_M_text a_M_plan a_M_read a_M_readPage a_M_page a_M_trial a_M_book a_M_kept a_M_isKept a_M_seenPoint a_M_seenSum a_M_seenWas M_thrown M_textSize M_place M_doings M_seen M_seed M_bestSet M_text M_plan M_read M_readPage M_page M_trial M_book M_kept M_isKept M_seenPoint M_seenSum M_seenWas)) C0 hP hD hS [0, 1, 2, 3, 4, 5, 6, 7, 8, 9, 10, 11, 12] rfl (kV (n := 0) (As := []) (rest := [.long (0 : Int64), .long (Int32.toInt64 p1)]) (wc := (WD16 cI cC cZ a_M a_M_text a_M_plan a_M_read a_M_readPage a_M_page a_M_trial a_M_book a_M_kept a_M_isKept a_M_seenPoint a_M_seenSum a_M_seenWas M_thrown M_textSize M_place M_doings M_seen M_seed M_bestSet M_text M_plan M_read M_readPage M_page M_trial M_book M_kept M_isKept M_seenPoint M_seenSum M_seenWas)) (C := RX7) C0 hP hD hS [0, 1, 2, 3, 4, 5, 6, 7, 8, 9, 10, 11, 12] rfl (by decide) (c_X7_spots l D cI cC cZ a_M a_M_text a_M_plan a_M_read a_M_readPage a_M_page a_M_trial a_M_book a_M_kept a_M_isKept a_M_seenPoint a_M_seenSum a_M_seenWas H.size M_thrown M_textSize M_place M_doings M_seen M_seed M_bestSet M_text M_plan M_read M_readPage M_page M_trial M_book M_kept M_isKept M_seenPoint M_seenSum M_seenWas  r2 hc1) kw_280 kw_277 kw_278 kw_279 kw_5 (by decide +kernel) (by decide) rfl rfl rfl hl.1 rfl (Nat.le_of_ble_eq_true rfl) ⟨Nat.zero_le _, Nat.zero_le _⟩ dX7_noSpot_4) (fun H locs hP hS => ?_)
  refine lv_iconst (v := (1 : Int32)) hx hb dX7_noSpot_7 (by decide) ?_
  refine lv_isub hx hb dX7_noSpot_8 ?_
  refine lv_i2l hx hb dX7_noSpot_9 rfl ?_
  obtain ⟨r4, hc3, h⟩ := oc_bind h
  refine kro_i (wc := (WD0 cI cC cZ)) C0 hP hD hS [] rfl (kS (n := 3) (As := [.long (Int32.toInt64 p1), .long (0 : Int64), .long (Int32.toInt64 (r2 - (1 : Int32)))]) (rest := []) (wc := (WD0 cI cC cZ)) C0 hP hD hS [] rfl (by decide) (c_X7_in l D cI cC cZ  H.size  (Int32.toInt64 p1) (0 : Int64) (Int32.toInt64 (r2 - (1 : Int32))) r4 hc3) kw_114 kw_112 kw_113 kw_5 (by decide +kernel) (by decide) rfl hl.1 rfl (Nat.le_of_ble_eq_true rfl) ⟨Nat.zero_le _, Nat.zero_le _⟩ dX7_noSpot_10) (fun H locs hP hS => ?_)
  refine lv_if_ne (tgt := 20) hx hb dX7_noSpot_13 (by decide) (fun c5 => ?_) (fun c5 => ?_)
  · have h := oc_f c5 h
    refine lv_iconst (v := (0 : Int32)) hx hb dX7_noSpot_20 (by decide) ?_
    cases h
    exact kret_i C0 hP hD hS (by decide) dX7_noSpot_21
  · have h := oc_t c5 h
    refine lv_iconst (v := (1 : Int32)) hx hb dX7_noSpot_16 (by decide) ?_
    refine lv_goto (tgt := 21) hx hb dX7_noSpot_17 (by decide) ?_
    cases h
    exact kret_i C0 hP hD hS (by decide) dX7_noSpot_21
abbrev rm_X7_noPoint : Room := { frames := 1, cells := 0, slots := 0, locals := 25 }
noncomputable def f_X7_noPoint (M_plan : Nat → Int32) (p1 : Int32) : Option (Int32) := (f_X7_points M_plan).bind (fun r2 => (f_X7_in (Int32.toInt64 p1) (0 : Int64) (Int32.toInt64 (r2 - (1 : Int32)))).bind (fun r4 => if r4 = 0 then (some (1 : Int32)) else (some (0 : Int32))))
set_option maxHeartbeats 4000000 in
set_option maxRecDepth 100000 in
theorem c_X7_noPoint (l : Launch) (D : va_G) (cI cC cZ : ClassId) (a_M a_M_text a_M_plan a_M_read a_M_readPage a_M_page a_M_trial a_M_book a_M_kept a_M_isKept a_M_seenPoint a_M_seenSum a_M_seenWas : Nat) (sz : Nat) (M_thrown : Int32) (M_textSize : Int32) (M_place : Int32) (M_doings : Int32) (M_seen : Int32) (M_seed : Int64) (M_bestSet : Int32) (M_text : Nat → Int32) (M_plan : Nat → Int32) (M_read : Nat → Int32) (M_readPage : Nat → Int32) (M_page : Nat → Int32) (M_trial : Nat → Int32) (M_book : Nat → Int32) (M_kept : Nat → Int32) (M_isKept : Nat → Int32) (M_seenPoint : Nat → Int32) (M_seenSum : Nat → Int32) (M_seenWas : Nat → Int32) (p1 : Int32) (rr : Int32) (hf : f_X7_noPoint M_plan p1 = some rr) : kMet l yX7_noPoint cX7_noPoint 2 (some .boolean) rm_X7_noPoint D (kTY cI cC cZ) [.ref a_M, .int p1] (WD16 cI cC cZ a_M a_M_text a_M_plan a_M_read a_M_readPage a_M_page a_M_trial a_M_book a_M_kept a_M_isKept a_M_seenPoint a_M_seenSum a_M_seenWas M_thrown M_textSize M_place M_doings M_seen M_seed M_bestSet M_text M_plan M_read M_readPage M_page M_trial M_book M_kept M_isKept M_seenPoint M_seenSum M_seenWas) sz (kQI D (kTY cI cC cZ) (va_A (WD16 cI cC cZ a_M a_M_text a_M_plan a_M_read a_M_readPage a_M_page a_M_trial a_M_book a_M_kept a_M_isKept a_M_seenPoint a_M_seenSum a_M_seenWas M_thrown M_textSize M_place M_doings M_seen M_seed M_bestSet M_text M_plan M_read M_readPage M_page M_trial M_book M_kept M_isKept M_seenPoint M_seenSum M_seenWas) sz) rr (WD16 cI cC cZ a_M a_M_text a_M_plan a_M_read a_M_readPage a_M_page a_M_trial a_M_book a_M_kept a_M_isKept a_M_seenPoint a_M_seenSum a_M_seenWas M_thrown M_textSize M_place M_doings M_seen M_seed M_bestSet M_text M_plan M_read M_readPage M_page M_trial M_book M_kept M_isKept M_seenPoint M_seenSum M_seenWas)) := by
  refine kEnter (lv := [(0, .ref a_M), (1, .int p1)]) (own := RX7) (by decide) rfl (Nat.le_of_ble_eq_true rfl) rfl ?_
  intro p e s m below meth c hsz C0 hP hD hS ls hl
  generalize (va_A (WD16 cI cC cZ a_M a_M_text a_M_plan a_M_read a_M_readPage a_M_page a_M_trial a_M_book a_M_kept a_M_isKept a_M_seenPoint a_M_seenSum a_M_seenWas M_thrown M_textSize M_place M_doings M_seen M_seed M_bestSet M_text M_plan M_read M_readPage M_page M_trial M_book M_kept M_isKept M_seenPoint M_seenSum M_seenWas) sz) = A at C0 hD hS ⊢
  clear hsz hS
  obtain ⟨H, hHs⟩ : ∃ H : Heap, H = s.heap := ⟨_, rfl⟩
  have hS : va_S A s.heap H [] := by rw [hHs]; exact va_S.rf
  rw [← hHs] at hP ⊢
  obtain ⟨hx, hb, hr, hml, hown, hts, hK, hN, hA, hlocks, hF⟩ := id C0
  have h := hf
  unfold f_X7_noPoint at h
  refine lv_iload_n hx hb dX7_noPoint_0 rfl (lv_at hl 1 rfl) ?_
  refine lv_i2l hx hb dX7_noPoint_1 rfl ?_
  refine lv_lconst (v := (0 : Int64)) hx hb dX7_noPoint_2 (by decide) ?_
  refine lv_aload_n hx hb dX7_noPoint_3 rfl (lv_at hl 0 rfl) ?_
  obtain ⟨r2, hc1, h⟩ := oc_bind h
  refine kro_i (wc := (WD16 cI cC cZ a_M a_M_text a_M_plan a_M_read a_M_readPage a_M_page a_M_trial a_M_book a_M_kept a_M_isKept a_M_seenPoint a_M_seenSum a_M_seenWas M_thrown M_textSize M_place M_doings M_seen M_seed M_bestSet M_text M_plan M_read M_readPage M_page M_trial M_book M_kept M_isKept M_seenPoint M_seenSum M_seenWas)) C0 hP hD hS [0, 1, 2, 3, 4, 5, 6, 7, 8, 9, 10, 11, 12] rfl (kV (n := 0) (As := []) (rest := [.long (0 : Int64), .long (Int32.toInt64 p1)]) (wc := (WD16 cI cC cZ a_M a_M_text a_M_plan a_M_read a_M_readPage a_M_page a_M_trial a_M_book a_M_kept a_M_isKept a_M_seenPoint a_M_seenSum a_M_seenWas M_thrown M_textSize M_place M_doings M_seen M_seed M_bestSet M_text M_plan M_read M_readPage M_page M_trial M_book M_kept M_isKept M_seenPoint M_seenSum M_seenWas)) (C := RX7) C0 hP hD hS [0, 1, 2, 3, 4, 5, 6, 7, 8, 9, 10, 11, 12] rfl (by decide) (c_X7_points l D cI cC cZ a_M a_M_text a_M_plan a_M_read a_M_readPage a_M_page a_M_trial a_M_book a_M_kept a_M_isKept a_M_seenPoint a_M_seenSum a_M_seenWas H.size M_thrown M_textSize M_place M_doings M_seen M_seed M_bestSet M_text M_plan M_read M_readPage M_page M_trial M_book M_kept M_isKept M_seenPoint M_seenSum M_seenWas  r2 hc1) kw_361 kw_358 kw_359 kw_360 kw_5 (by decide +kernel) (by decide) rfl rfl rfl hl.1 rfl (Nat.le_of_ble_eq_true rfl) ⟨Nat.zero_le _, Nat.zero_le _⟩ dX7_noPoint_4) (fun H locs hP hS => ?_)
  refine lv_iconst (v := (1 : Int32)) hx hb dX7_noPoint_7 (by decide) ?_
  refine lv_isub hx hb dX7_noPoint_8 ?_
  refine lv_i2l hx hb dX7_noPoint_9 rfl ?_
  obtain ⟨r4, hc3, h⟩ := oc_bind h
  refine kro_i (wc := (WD0 cI cC cZ)) C0 hP hD hS [] rfl (kS (n := 3) (As := [.long (Int32.toInt64 p1), .long (0 : Int64), .long (Int32.toInt64 (r2 - (1 : Int32)))]) (rest := []) (wc := (WD0 cI cC cZ)) C0 hP hD hS [] rfl (by decide) (c_X7_in l D cI cC cZ  H.size  (Int32.toInt64 p1) (0 : Int64) (Int32.toInt64 (r2 - (1 : Int32))) r4 hc3) kw_114 kw_112 kw_113 kw_5 (by decide +kernel) (by decide) rfl hl.1 rfl (Nat.le_of_ble_eq_true rfl) ⟨Nat.zero_le _, Nat.zero_le _⟩ dX7_noPoint_10) (fun H locs hP hS => ?_)
  refine lv_if_ne (tgt := 20) hx hb dX7_noPoint_13 (by decide) (fun c5 => ?_) (fun c5 => ?_)
  · have h := oc_f c5 h
    refine lv_iconst (v := (0 : Int32)) hx hb dX7_noPoint_20 (by decide) ?_
    cases h
    exact kret_i C0 hP hD hS (by decide) dX7_noPoint_21
  · have h := oc_t c5 h
    refine lv_iconst (v := (1 : Int32)) hx hb dX7_noPoint_16 (by decide) ?_
    refine lv_goto (tgt := 21) hx hb dX7_noPoint_17 (by decide) ?_
    cases h
    exact kret_i C0 hP hD hS (by decide) dX7_noPoint_21
abbrev rm_X7_write : Room := { frames := 1, cells := 0, slots := 0, locals := 25 }
noncomputable def f_X7_write (M_thrown : Int32) (M_textSize : Int32) (M_text : Nat → Int32) (p1 : Int32) : Option (Int32 × Int32 × Int32 × (Nat → Int32)) := (f_X7_in (Int32.toInt64 p1) (0 : Int64) (255 : Int64)).bind (fun r2 => if r2 = 0 then (some ((-2 : Int32), (0 : Int32), M_textSize, M_text)) else (if M_textSize = (99 : Int32) then (some ((-4 : Int32), (0 : Int32), M_textSize, M_text)) else (if (M_textSize < 0 ∨ 99 ≤ Int32.toNatClampNeg M_textSize) then none else (nm_ (M_textSize + (1 : Int32)) (fun t6 => some (t6, (0 : Int32), t6, (upd M_text (Int32.toNatClampNeg M_textSize) p1)))))))
set_option maxHeartbeats 4000000 in
set_option maxRecDepth 100000 in
theorem c_X7_write (l : Launch) (D : va_G) (cI cC cZ : ClassId) (a_M a_M_text a_M_plan a_M_read a_M_readPage a_M_page a_M_trial a_M_book a_M_kept a_M_isKept a_M_seenPoint a_M_seenSum a_M_seenWas : Nat) (sz : Nat) (M_thrown : Int32) (M_textSize : Int32) (M_place : Int32) (M_doings : Int32) (M_seen : Int32) (M_seed : Int64) (M_bestSet : Int32) (M_text : Nat → Int32) (M_plan : Nat → Int32) (M_read : Nat → Int32) (M_readPage : Nat → Int32) (M_page : Nat → Int32) (M_trial : Nat → Int32) (M_book : Nat → Int32) (M_kept : Nat → Int32) (M_isKept : Nat → Int32) (M_seenPoint : Nat → Int32) (M_seenSum : Nat → Int32) (M_seenWas : Nat → Int32) (p1 : Int32) (rr : Int32) (u_M_thrown : Int32) (u_M_textSize : Int32) (u_M_text : Nat → Int32) (hf : f_X7_write M_thrown M_textSize M_text p1 = some (rr, u_M_thrown, u_M_textSize, u_M_text)) : kMet l yX7_write cX7_write 2 (some .int) rm_X7_write D (kTY cI cC cZ) [.ref a_M, .int p1] (WD16 cI cC cZ a_M a_M_text a_M_plan a_M_read a_M_readPage a_M_page a_M_trial a_M_book a_M_kept a_M_isKept a_M_seenPoint a_M_seenSum a_M_seenWas M_thrown M_textSize M_place M_doings M_seen M_seed M_bestSet M_text M_plan M_read M_readPage M_page M_trial M_book M_kept M_isKept M_seenPoint M_seenSum M_seenWas) sz (kQI D (kTY cI cC cZ) (va_A (WD16 cI cC cZ a_M a_M_text a_M_plan a_M_read a_M_readPage a_M_page a_M_trial a_M_book a_M_kept a_M_isKept a_M_seenPoint a_M_seenSum a_M_seenWas M_thrown M_textSize M_place M_doings M_seen M_seed M_bestSet M_text M_plan M_read M_readPage M_page M_trial M_book M_kept M_isKept M_seenPoint M_seenSum M_seenWas) sz) rr (WD16 cI cC cZ a_M a_M_text a_M_plan a_M_read a_M_readPage a_M_page a_M_trial a_M_book a_M_kept a_M_isKept a_M_seenPoint a_M_seenSum a_M_seenWas u_M_thrown u_M_textSize M_place M_doings M_seen M_seed M_bestSet u_M_text M_plan M_read M_readPage M_page M_trial M_book M_kept M_isKept M_seenPoint M_seenSum M_seenWas)) := by
  refine kEnter (lv := [(0, .ref a_M), (1, .int p1)]) (own := RX7) (by decide) rfl (Nat.le_of_ble_eq_true rfl) rfl ?_
  intro p e s m below meth c hsz C0 hP hD hS ls hl
  generalize (va_A (WD16 cI cC cZ a_M a_M_text a_M_plan a_M_read a_M_readPage a_M_page a_M_trial a_M_book a_M_kept a_M_isKept a_M_seenPoint a_M_seenSum a_M_seenWas M_thrown M_textSize M_place M_doings M_seen M_seed M_bestSet M_text M_plan M_read M_readPage M_page M_trial M_book M_kept M_isKept M_seenPoint M_seenSum M_seenWas) sz) = A at C0 hD hS ⊢
  clear hsz hS
  obtain ⟨H, hHs⟩ : ∃ H : Heap, H = s.heap := ⟨_, rfl⟩
  have hS : va_S A s.heap H [] := by rw [hHs]; exact va_S.rf
  rw [← hHs] at hP ⊢
  obtain ⟨hx, hb, hr, hml, hown, hts, hK, hN, hA, hlocks, hF⟩ := id C0
  have h := hf
  unfold f_X7_write at h
  refine lv_aload_n hx hb dX7_write_0 rfl (lv_at hl 0 rfl) ?_
  refine lv_iconst (v := (0 : Int32)) hx hb dX7_write_1 (by decide) ?_
  refine va_put (D := D) (ci := 7) (v := .int (0 : Int32)) (ty := .int) (C := RX7) (T := TX7) (N := 19) hx hb hts inlX7 tyX7 tyX7_ok nmX7 hown hK hP hD hS 0 rfl rfl 0 (by decide) (hts _ kw_109) (fun _ h9 => h9) rfl (by decide +kernel) rfl rfl (Nat.le_of_ble_eq_true rfl) dX7_write_2 (fun H locs hP hD hS => ?_)
  have hP : va_P D vwCl (WD16 cI cC cZ a_M a_M_text a_M_plan a_M_read a_M_readPage a_M_page a_M_trial a_M_book a_M_kept a_M_isKept a_M_seenPoint a_M_seenSum a_M_seenWas (0 : Int32) M_textSize M_place M_doings M_seen M_seed M_bestSet M_text M_plan M_read M_readPage M_page M_trial M_book M_kept M_isKept M_seenPoint M_seenSum M_seenWas) H := hP
  have hD : va_D A (WD16 cI cC cZ a_M a_M_text a_M_plan a_M_read a_M_readPage a_M_page a_M_trial a_M_book a_M_kept a_M_isKept a_M_seenPoint a_M_seenSum a_M_seenWas (0 : Int32) M_textSize M_place M_doings M_seen M_seed M_bestSet M_text M_plan M_read M_readPage M_page M_trial M_book M_kept M_isKept M_seenPoint M_seenSum M_seenWas) := hD
  refine lv_iload_n hx hb dX7_write_5 rfl (lv_at hl 1 rfl) ?_
  refine lv_i2l hx hb dX7_write_6 rfl ?_
  refine lv_lconst (v := (0 : Int64)) hx hb dX7_write_7 (by decide) ?_
  refine lv_ldc2 (v := (255 : Int64)) hx hb hown (hts _ kw_110) dX7_write_8 ?_
  obtain ⟨r2, hc1, h⟩ := oc_bind h
  refine kro_i (wc := (WD0 cI cC cZ)) C0 hP hD hS [] rfl (kS (n := 3) (As := [.long (Int32.toInt64 p1), .long (0 : Int64), .long (255 : Int64)]) (rest := []) (wc := (WD0 cI cC cZ)) C0 hP hD hS [] rfl (by decide) (c_X7_in l D cI cC cZ  H.size  (Int32.toInt64 p1) (0 : Int64) (255 : Int64) r2 hc1) kw_114 kw_112 kw_113 kw_5 (by decide +kernel) (by decide) rfl hl.1 rfl (Nat.le_of_ble_eq_true rfl) ⟨Nat.zero_le _, Nat.zero_le _⟩ dX7_write_11) (fun H locs hP hS => ?_)
  refine lv_if_ne (tgt := 20) hx hb dX7_write_14 (by decide) (fun c3 => ?_) (fun c3 => ?_)
  · have h := oc_f c3 h
    refine lv_aload_n hx hb dX7_write_20 rfl (lv_at hl 0 rfl) ?_
    refine va_get (D := D) (ci := 7) (v := .int M_textSize) (C := RX7) (T := TX7) (N := 19) hx hb hts inlX7 hown hK hP 0 rfl rfl 2 (by decide) (hts _ kw_111) (fun _ h9 => h9) rfl dX7_write_21 ?_
    refine lv_bipush (v := (99 : Int32)) hx hb dX7_write_24 (by decide) ?_
    refine lv_icmp_ne (tgt := 32) hx hb dX7_write_26 (by decide) (fun c4 => ?_) (fun c4 => ?_)
    · have h := oc_f c4 h
      refine lv_aload_n hx hb dX7_write_32 rfl (lv_at hl 0 rfl) ?_
      refine va_get (D := D) (ci := 7) (v := .ref a_M_text) (C := RX7) (T := TX7) (N := 19) hx hb hts inlX7 hown hK hP 0 rfl rfl 1 (by decide) (hts _ kw_84) (fun _ h9 => h9) rfl dX7_write_33 ?_
      refine lv_aload_n hx hb dX7_write_36 rfl (lv_at hl 0 rfl) ?_
      refine va_get (D := D) (ci := 7) (v := .int M_textSize) (C := RX7) (T := TX7) (N := 19) hx hb hts inlX7 hown hK hP 0 rfl rfl 2 (by decide) (hts _ kw_111) (fun _ h9 => h9) rfl dX7_write_37 ?_
      refine lv_iload_n hx hb dX7_write_40 rfl (lv_at hl 1 rfl) ?_
      obtain ⟨hb5, h⟩ := oc_else h
      refine va_iast hx hb hK hP hD hS 1 0 rfl rfl hb5 dX7_write_41 (fun H locs hP hD hS => ?_)
      have hP : va_P D vwCl (WD16 cI cC cZ a_M a_M_text a_M_plan a_M_read a_M_readPage a_M_page a_M_trial a_M_book a_M_kept a_M_isKept a_M_seenPoint a_M_seenSum a_M_seenWas (0 : Int32) M_textSize M_place M_doings M_seen M_seed M_bestSet (upd M_text (Int32.toNatClampNeg M_textSize) p1) M_plan M_read M_readPage M_page M_trial M_book M_kept M_isKept M_seenPoint M_seenSum M_seenWas) H := hP
      have hD : va_D A (WD16 cI cC cZ a_M a_M_text a_M_plan a_M_read a_M_readPage a_M_page a_M_trial a_M_book a_M_kept a_M_isKept a_M_seenPoint a_M_seenSum a_M_seenWas (0 : Int32) M_textSize M_place M_doings M_seen M_seed M_bestSet (upd M_text (Int32.toNatClampNeg M_textSize) p1) M_plan M_read M_readPage M_page M_trial M_book M_kept M_isKept M_seenPoint M_seenSum M_seenWas) := hD
      refine lv_aload_n hx hb dX7_write_42 rfl (lv_at hl 0 rfl) ?_
      refine lv_dup hx hb dX7_write_43 rfl ?_
      refine va_get (D := D) (ci := 7) (v := .int M_textSize) (C := RX7) (T := TX7) (N := 19) hx hb hts inlX7 hown hK hP 0 rfl rfl 2 (by decide) (hts _ kw_111) (fun _ h9 => h9) rfl dX7_write_44 ?_
      refine lv_iconst (v := (1 : Int32)) hx hb dX7_write_47 (by decide) ?_
      refine lv_iadd hx hb dX7_write_48 ?_
      refine lv_topi (fun t6 e_t6 => ?_)
      have h := oc_nm e_t6 h
      refine va_put (D := D) (ci := 7) (v := .int t6) (ty := .int) (C := RX7) (T := TX7) (N := 19) hx hb hts inlX7 tyX7 tyX7_ok nmX7 hown hK hP hD hS 0 rfl rfl 2 (by decide) (hts _ kw_111) (fun _ h9 => h9) rfl (by decide +kernel) rfl rfl (Nat.le_of_ble_eq_true rfl) dX7_write_49 (fun H locs hP hD hS => ?_)
      have hP : va_P D vwCl (WD16 cI cC cZ a_M a_M_text a_M_plan a_M_read a_M_readPage a_M_page a_M_trial a_M_book a_M_kept a_M_isKept a_M_seenPoint a_M_seenSum a_M_seenWas (0 : Int32) t6 M_place M_doings M_seen M_seed M_bestSet (upd M_text (Int32.toNatClampNeg M_textSize) p1) M_plan M_read M_readPage M_page M_trial M_book M_kept M_isKept M_seenPoint M_seenSum M_seenWas) H := hP
      have hD : va_D A (WD16 cI cC cZ a_M a_M_text a_M_plan a_M_read a_M_readPage a_M_page a_M_trial a_M_book a_M_kept a_M_isKept a_M_seenPoint a_M_seenSum a_M_seenWas (0 : Int32) t6 M_place M_doings M_seen M_seed M_bestSet (upd M_text (Int32.toNatClampNeg M_textSize) p1) M_plan M_read M_readPage M_page M_trial M_book M_kept M_isKept M_seenPoint M_seenSum M_seenWas) := hD
      refine lv_aload_n hx hb dX7_write_52 rfl (lv_at hl 0 rfl) ?_
      refine va_get (D := D) (ci := 7) (v := .int t6) (C := RX7) (T := TX7) (N := 19) hx hb hts inlX7 hown hK hP 0 rfl rfl 2 (by decide) (hts _ kw_111) (fun _ h9 => h9) rfl dX7_write_53 ?_
      cases h
      exact kret_i C0 hP hD hS rfl dX7_write_56
    · have h := oc_t c4 h
      refine lv_bipush (v := (-4 : Int32)) hx hb dX7_write_29 (by decide) ?_
      cases h
      exact kret_i C0 hP hD hS rfl dX7_write_31
  · have h := oc_t c3 h
    refine lv_bipush (v := (-2 : Int32)) hx hb dX7_write_17 (by decide) ?_
    cases h
    exact kret_i C0 hP hD hS rfl dX7_write_19
