abbrev rm_X7_divisor : Room := { frames := 0, cells := 0, slots := 0, locals := 0 }
noncomputable def bk_X7_divisor_13 (k13 : Int32 → Int32 → Option (Int32)) (p2 : Int32) (p3 : Int32) : Option (Int32) := if p3 = 0 then (some p2) else (if p3 = 0 then none else (nm_ (p2 - p2 / p3 * p3) (fun t3 => k13 p3 t3)))
set_option maxHeartbeats 4000000 in
set_option maxRecDepth 100000 in
theorem wk_X7_divisor_13 {p : Program} {l : Launch} {e : Env} {s : State} {m : MethodId} {args : Array Value} {below : List Frame} {meth : Method} {c : Code} {D : va_G} {cI cC cZ : ClassId} {A : Nat → Prop} {p2 : Int32} {p3 : Int32} {k13 : Int32 → Int32 → Option (Int32)} {rr : Int32} (C0 : kC p s m args meth c D (kTY cI cC cZ) cX7_divisor (some .int) 5 RX7 A) (hk13 : ∀ (p2_k : Int32) (p3_k : Int32), k13 p2_k p3_k = some rr → ∀ (H : Heap) (locs : List Loc), va_P D vwCl (WD0 cI cC cZ) H → va_D A (WD0 cI cC cZ) → va_S A s.heap H locs → ∀ ls : Array Slot, lv_has ls 5 [(2, .int p2_k), (3, .int p3_k)] → W p l e rm_X7_divisor s m args below meth c H locs 0 0 (MQ below (kQI D (kTY cI cC cZ) A rr (WD0 cI cC cZ)) args s 0 0 A) (F0 m 13 ls [])) (h : bk_X7_divisor_13 k13 p2 p3 = some rr) {H : Heap} {locs : List Loc} (hP : va_P D vwCl (WD0 cI cC cZ) H) (hD : va_D A (WD0 cI cC cZ)) (hS : va_S A s.heap H locs) {ls : Array Slot} (hl : lv_has ls 5 [(2, .int p2), (3, .int p3)]) : W p l e rm_X7_divisor s m args below meth c H locs 0 0 (MQ below (kQI D (kTY cI cC cZ) A rr (WD0 cI cC cZ)) args s 0 0 A) (F0 m 13 ls []) := by
  obtain ⟨hx, hb, hr, hml, hown, hts, hK, hN, hA, hlocks, hF⟩ := id C0
  unfold bk_X7_divisor_13 at h
  refine lv_iload_n hx hb dX7_divisor_13 rfl (lv_at hl 1 rfl) ?_
  refine lv_if_eq (tgt := 30) hx hb dX7_divisor_14 (by decide) (fun c1 => ?_) (fun c1 => ?_)
  · have h := oc_t c1 h
    refine lv_iload_n hx hb dX7_divisor_30 rfl (lv_at hl 0 rfl) ?_
    cases h
    exact kret_i C0 hP hD hS rfl dX7_divisor_31
  · have h := oc_f c1 h
    refine lv_iload_n hx hb dX7_divisor_17 rfl (lv_at hl 0 rfl) ?_
    refine lv_iload_n hx hb dX7_divisor_18 rfl (lv_at hl 1 rfl) ?_
    obtain ⟨hz2, h⟩ := oc_else h
    refine lv_irem hx hb dX7_divisor_19 hz2 ?_
    refine lv_topi (fun t3 e_t3 => ?_)
    have h := oc_nm e_t3 h
    refine lv_istore (lv' := [(4, .int t3), (2, .int p2), (3, .int p3)]) hx hb dX7_divisor_20 hl (by decide) rfl (fun ls hl => ?_)
    refine lv_iload_n hx hb dX7_divisor_22 rfl (lv_at hl 2 rfl) ?_
    refine lv_istore_n (lv' := [(2, .int p3), (4, .int t3), (3, .int p3)]) hx hb dX7_divisor_23 rfl hl (by decide) rfl (fun ls hl => ?_)
    refine lv_iload hx hb dX7_divisor_24 (lv_at hl 1 rfl) ?_
    refine lv_istore_n (lv' := [(3, .int t3), (2, .int p3), (4, .int t3)]) hx hb dX7_divisor_26 rfl hl (by decide) rfl (fun ls hl => ?_)
    refine lv_goto (tgt := 13) hx hb dX7_divisor_27 (by decide) ?_
    exact hk13 _ _ h _ _ hP hD hS _ (lv_sub hl [1, 0] rfl)
noncomputable def lp_X7_divisor_13   (n : Nat) : Int32 → Int32 → Option (Int32) := Nat.rec (motive := fun _ => Int32 → Int32 → Option (Int32)) (fun _ _ => none) (fun _ ih => bk_X7_divisor_13  ih ) n
set_option maxHeartbeats 4000000 in
set_option maxRecDepth 100000 in
theorem wl_X7_divisor_13 {p : Program} {l : Launch} {e : Env} {s : State} {m : MethodId} {args : Array Value} {below : List Frame} {meth : Method} {c : Code} {D : va_G} {cI cC cZ : ClassId} {A : Nat → Prop}   {rr : Int32} (C0 : kC p s m args meth c D (kTY cI cC cZ) cX7_divisor (some .int) 5 RX7 A)  : ∀ (n : Nat) (p2 : Int32) (p3 : Int32), lp_X7_divisor_13   n p2 p3 = some rr → ∀ (H : Heap) (locs : List Loc), va_P D vwCl (WD0 cI cC cZ) H → va_D A (WD0 cI cC cZ) → va_S A s.heap H locs → ∀ ls : Array Slot, lv_has ls 5 [(2, .int p2), (3, .int p3)] → W p l e rm_X7_divisor s m args below meth c H locs 0 0 (MQ below (kQI D (kTY cI cC cZ) A rr (WD0 cI cC cZ)) args s 0 0 A) (F0 m 13 ls []) := by
  intro n
  induction n with
  | zero => intro p2 p3 h; cases (show (none : Option (Int32)) = some _ from h)
  | succ n ih =>
    intro p2 p3 h H locs hP hD hS ls hl
    exact wk_X7_divisor_13 C0  (fun p2 p3 h H locs hP hD hS ls hl => ih p2 p3 h H locs hP hD hS ls hl) (show bk_X7_divisor_13  (lp_X7_divisor_13   n) p2 p3 = some _ from h) hP hD hS hl
noncomputable def f_X7_divisor  (p0 : Int32) (p1 : Int32) : Option (Int32) := if 0 ≤ p0 then (lp_X7_divisor_13   1000 p0 p1) else (nm_ (-p0) (fun t2 => lp_X7_divisor_13   1000 t2 p1))
set_option maxHeartbeats 4000000 in
set_option maxRecDepth 100000 in
theorem c_X7_divisor (l : Launch) (D : va_G) (cI cC cZ : ClassId) (sz : Nat) (p0 : Int32) (p1 : Int32) (rr : Int32) (hf : f_X7_divisor p0 p1 = some rr) : kMet l yX7_divisor cX7_divisor 5 (some .int) rm_X7_divisor D (kTY cI cC cZ) [.int p0, .int p1] (WD0 cI cC cZ) sz (kQI D (kTY cI cC cZ) (va_A (WD0 cI cC cZ) sz) rr (WD0 cI cC cZ)) := by
  refine kEnter (lv := [(0, .int p0), (1, .int p1)]) (own := RX7) (by decide) rfl (Nat.le_of_ble_eq_true rfl) rfl ?_
  intro p e s m below meth c hsz C0 hP hD hS ls hl
  generalize (va_A (WD0 cI cC cZ) sz) = A at C0 hD hS ⊢
  clear hsz hS
  obtain ⟨H, hHs⟩ : ∃ H : Heap, H = s.heap := ⟨_, rfl⟩
  have hS : va_S A s.heap H [] := by rw [hHs]; exact va_S.rf
  rw [← hHs] at hP ⊢
  obtain ⟨hx, hb, hr, hml, hown, hts, hK, hN, hA, hlocks, hF⟩ := id C0
  have h := hf
  unfold f_X7_divisor at h
  refine lv_iload_n hx hb dX7_divisor_0 rfl (lv_at hl 0 rfl) ?_
  refine lv_if_ge (tgt := 9) hx hb dX7_divisor_1 (by decide) (fun c1 => ?_) (fun c1 => ?_)
  · have h := oc_t c1 h
    refine lv_iload_n hx hb dX7_divisor_9 rfl (lv_at hl 0 rfl) ?_
    refine lv_istore_n (lv' := [(2, .int p0), (0, .int p0), (1, .int p1)]) hx hb dX7_divisor_10 rfl hl (by decide) rfl (fun ls hl => ?_)
    refine lv_iload_n hx hb dX7_divisor_11 rfl (lv_at hl 2 rfl) ?_
    refine lv_istore_n (lv' := [(3, .int p1), (2, .int p0), (0, .int p0), (1, .int p1)]) hx hb dX7_divisor_12 rfl hl (by decide) rfl (fun ls hl => ?_)
    exact wl_X7_divisor_13 C0  _ _ _ h _ _ hP hD hS _ (lv_sub hl [1, 0] rfl)
  · have h := oc_f c1 h
    refine lv_iload_n hx hb dX7_divisor_4 rfl (lv_at hl 0 rfl) ?_
    refine lv_ineg hx hb dX7_divisor_5 ?_
    refine lv_goto (tgt := 10) hx hb dX7_divisor_6 (by decide) ?_
    refine lv_topi (fun t2 e_t2 => ?_)
    have h := oc_nm e_t2 h
    refine lv_istore_n (lv' := [(2, .int t2), (0, .int p0), (1, .int p1)]) hx hb dX7_divisor_10 rfl hl (by decide) rfl (fun ls hl => ?_)
    refine lv_iload_n hx hb dX7_divisor_11 rfl (lv_at hl 2 rfl) ?_
    refine lv_istore_n (lv' := [(3, .int p1), (2, .int t2), (0, .int p0), (1, .int p1)]) hx hb dX7_divisor_12 rfl hl (by decide) rfl (fun ls hl => ?_)
    exact wl_X7_divisor_13 C0  _ _ _ h _ _ hP hD hS _ (lv_sub hl [1, 0] rfl)
abbrev rm_X7_fraction : Room := { frames := 1, cells := 0, slots := 0, locals := 24 }
noncomputable def f_X7_fraction  (p0 : Int32) (p1 : Int32) (p2 : Int32) : Option (Int32) := (f_X7_divisor p0 p1).bind (fun r2 => if p2 = 0 then (if r2 = 0 then none else (some (p1 / r2))) else (if r2 = 0 then none else (some (p0 / r2))))
set_option maxHeartbeats 4000000 in
set_option maxRecDepth 100000 in
theorem c_X7_fraction (l : Launch) (D : va_G) (cI cC cZ : ClassId) (sz : Nat) (p0 : Int32) (p1 : Int32) (p2 : Int32) (rr : Int32) (hf : f_X7_fraction p0 p1 p2 = some rr) : kMet l yX7_fraction cX7_fraction 4 (some .int) rm_X7_fraction D (kTY cI cC cZ) [.int p0, .int p1, .int p2] (WD0 cI cC cZ) sz (kQI D (kTY cI cC cZ) (va_A (WD0 cI cC cZ) sz) rr (WD0 cI cC cZ)) := by
  refine kEnter (lv := [(0, .int p0), (1, .int p1), (2, .int p2)]) (own := RX7) (by decide) rfl (Nat.le_of_ble_eq_true rfl) rfl ?_
  intro p e s m below meth c hsz C0 hP hD hS ls hl
  generalize (va_A (WD0 cI cC cZ) sz) = A at C0 hD hS ⊢
  clear hsz hS
  obtain ⟨H, hHs⟩ : ∃ H : Heap, H = s.heap := ⟨_, rfl⟩
  have hS : va_S A s.heap H [] := by rw [hHs]; exact va_S.rf
  rw [← hHs] at hP ⊢
  obtain ⟨hx, hb, hr, hml, hown, hts, hK, hN, hA, hlocks, hF⟩ := id C0
  have h := hf
  unfold f_X7_fraction at h
  refine lv_iload_n hx hb dX7_fraction_0 rfl (lv_at hl 0 rfl) ?_
  refine lv_iload_n hx hb dX7_fraction_1 rfl (lv_at hl 1 rfl) ?_
  obtain ⟨r2, hc1, h⟩ := oc_bind h
  refine kro_i (wc := (WD0 cI cC cZ)) C0 hP hD hS [] rfl (kS (n := 2) (As := [.int p0, .int p1]) (rest := []) (wc := (WD0 cI cC cZ)) C0 hP hD hS [] rfl (by decide) (c_X7_divisor l D cI cC cZ  H.size  p0 p1 r2 hc1) kw_739 kw_737 kw_738 kw_5 (by decide +kernel) (by decide) rfl hl.1 rfl (Nat.le_of_ble_eq_true rfl) ⟨Nat.zero_le _, Nat.zero_le _⟩ dX7_fraction_2) (fun H locs hP hS => ?_)
  refine lv_istore_n (lv' := [(3, .int r2), (0, .int p0), (1, .int p1), (2, .int p2)]) hx hb dX7_fraction_5 rfl hl (by decide) rfl (fun ls hl => ?_)
  refine lv_iload_n hx hb dX7_fraction_6 rfl (lv_at hl 3 rfl) ?_
  refine lv_if_eq (tgt := 16) hx hb dX7_fraction_7 (by decide) (fun c3 => ?_) (fun c3 => ?_)
  · have h := oc_t c3 h
    refine lv_iload_n hx hb dX7_fraction_16 rfl (lv_at hl 2 rfl) ?_
    refine lv_iload_n hx hb dX7_fraction_17 rfl (lv_at hl 0 rfl) ?_
    obtain ⟨hz4, h⟩ := oc_else h
    refine lv_idiv hx hb dX7_fraction_18 hz4 ?_
    cases h
    exact kret_i C0 hP hD hS rfl dX7_fraction_19
  · have h := oc_f c3 h
    refine lv_iload_n hx hb dX7_fraction_10 rfl (lv_at hl 1 rfl) ?_
    refine lv_iload_n hx hb dX7_fraction_11 rfl (lv_at hl 0 rfl) ?_
    obtain ⟨hz5, h⟩ := oc_else h
    refine lv_idiv hx hb dX7_fraction_12 hz5 ?_
    refine lv_goto (tgt := 19) hx hb dX7_fraction_13 (by decide) ?_
    cases h
    exact kret_i C0 hP hD hS rfl dX7_fraction_19
abbrev rm_X7_factorial : Room := { frames := 0, cells := 0, slots := 0, locals := 0 }
noncomputable def bk_X7_factorial_4 (k4 : Int32 → Int32 → Option (Int32)) (p0 : Int32) (p1 : Int32) (p2 : Int32) : Option (Int32) := if p0 < p2 then (some p1) else (nm_ (p1 * p2) (fun t2 => nm_ (p2 + (1 : Int32)) (fun t3 => k4 t2 t3)))
set_option maxHeartbeats 4000000 in
set_option maxRecDepth 100000 in
theorem wk_X7_factorial_4 {p : Program} {l : Launch} {e : Env} {s : State} {m : MethodId} {args : Array Value} {below : List Frame} {meth : Method} {c : Code} {D : va_G} {cI cC cZ : ClassId} {A : Nat → Prop} {p0 : Int32} {p1 : Int32} {p2 : Int32} {k4 : Int32 → Int32 → Option (Int32)} {rr : Int32} (C0 : kC p s m args meth c D (kTY cI cC cZ) cX7_factorial (some .int) 3 RX7 A) (hk4 : ∀ (p1_k : Int32) (p2_k : Int32), k4 p1_k p2_k = some rr → ∀ (H : Heap) (locs : List Loc), va_P D vwCl (WD0 cI cC cZ) H → va_D A (WD0 cI cC cZ) → va_S A s.heap H locs → ∀ ls : Array Slot, lv_has ls 3 [(0, .int p0), (1, .int p1_k), (2, .int p2_k)] → W p l e rm_X7_factorial s m args below meth c H locs 0 0 (MQ below (kQI D (kTY cI cC cZ) A rr (WD0 cI cC cZ)) args s 0 0 A) (F0 m 4 ls [])) (h : bk_X7_factorial_4 k4 p0 p1 p2 = some rr) {H : Heap} {locs : List Loc} (hP : va_P D vwCl (WD0 cI cC cZ) H) (hD : va_D A (WD0 cI cC cZ)) (hS : va_S A s.heap H locs) {ls : Array Slot} (hl : lv_has ls 3 [(0, .int p0), (1, .int p1), (2, .int p2)]) : W p l e rm_X7_factorial s m args below meth c H locs 0 0 (MQ below (kQI D (kTY cI cC cZ) A rr (WD0 cI cC cZ)) args s 0 0 A) (F0 m 4 ls []) := by
  obtain ⟨hx, hb, hr, hml, hown, hts, hK, hN, hA, hlocks, hF⟩ := id C0
  unfold bk_X7_factorial_4 at h
  refine lv_iload_n hx hb dX7_factorial_4 rfl (lv_at hl 2 rfl) ?_
  refine lv_iload_n hx hb dX7_factorial_5 rfl (lv_at hl 0 rfl) ?_
  refine lv_icmp_gt (tgt := 19) hx hb dX7_factorial_6 (by decide) (fun c1 => ?_) (fun c1 => ?_)
  · have h := oc_t c1 h
    refine lv_iload_n hx hb dX7_factorial_19 rfl (lv_at hl 1 rfl) ?_
    cases h
    exact kret_i C0 hP hD hS rfl dX7_factorial_20
  · have h := oc_f c1 h
    refine lv_iload_n hx hb dX7_factorial_9 rfl (lv_at hl 1 rfl) ?_
    refine lv_iload_n hx hb dX7_factorial_10 rfl (lv_at hl 2 rfl) ?_
    refine lv_imul hx hb dX7_factorial_11 ?_
    refine lv_topi (fun t2 e_t2 => ?_)
    have h := oc_nm e_t2 h
    refine lv_istore_n (lv' := [(1, .int t2), (0, .int p0), (2, .int p2)]) hx hb dX7_factorial_12 rfl hl (by decide) rfl (fun ls hl => ?_)
    obtain ⟨t3, e_t3⟩ : ∃ y : Int32, y = p2 + (1 : Int32) := ⟨_, rfl⟩
    have h := oc_nm e_t3 h
    refine lv_iinc (v := t3) (lv' := [(2, .int t3), (1, .int t2), (0, .int p0)]) hx hb dX7_factorial_13 hl (k := 2) rfl (by rw [e_t3]; rfl) (by decide) rfl (fun ls hl => ?_)
    refine lv_goto (tgt := 4) hx hb dX7_factorial_16 (by decide) ?_
    exact hk4 _ _ h _ _ hP hD hS _ (lv_sub hl [2, 1, 0] rfl)
noncomputable def lp_X7_factorial_4  (p0 : Int32) (n : Nat) : Int32 → Int32 → Option (Int32) := Nat.rec (motive := fun _ => Int32 → Int32 → Option (Int32)) (fun _ _ => none) (fun _ ih => bk_X7_factorial_4  ih p0) n
set_option maxHeartbeats 4000000 in
set_option maxRecDepth 100000 in
theorem wl_X7_factorial_4 {p : Program} {l : Launch} {e : Env} {s : State} {m : MethodId} {args : Array Value} {below : List Frame} {meth : Method} {c : Code} {D : va_G} {cI cC cZ : ClassId} {A : Nat → Prop} {p0 : Int32}  {rr : Int32} (C0 : kC p s m args meth c D (kTY cI cC cZ) cX7_factorial (some .int) 3 RX7 A)  : ∀ (n : Nat) (p1 : Int32) (p2 : Int32), lp_X7_factorial_4  p0 n p1 p2 = some rr → ∀ (H : Heap) (locs : List Loc), va_P D vwCl (WD0 cI cC cZ) H → va_D A (WD0 cI cC cZ) → va_S A s.heap H locs → ∀ ls : Array Slot, lv_has ls 3 [(0, .int p0), (1, .int p1), (2, .int p2)] → W p l e rm_X7_factorial s m args below meth c H locs 0 0 (MQ below (kQI D (kTY cI cC cZ) A rr (WD0 cI cC cZ)) args s 0 0 A) (F0 m 4 ls []) := by
  intro n
  induction n with
  | zero => intro p1 p2 h; cases (show (none : Option (Int32)) = some _ from h)
  | succ n ih =>
    intro p1 p2 h H locs hP hD hS ls hl
    exact wk_X7_factorial_4 C0  (fun p1 p2 h H locs hP hD hS ls hl => ih p1 p2 h H locs hP hD hS ls hl) (show bk_X7_factorial_4  (lp_X7_factorial_4  p0 n) p0 p1 p2 = some _ from h) hP hD hS hl
noncomputable def f_X7_factorial  (p0 : Int32) : Option (Int32) := lp_X7_factorial_4  p0 1000 (1 : Int32) (2 : Int32)
set_option maxHeartbeats 4000000 in
set_option maxRecDepth 100000 in
theorem c_X7_factorial (l : Launch) (D : va_G) (cI cC cZ : ClassId) (sz : Nat) (p0 : Int32) (rr : Int32) (hf : f_X7_factorial p0 = some rr) : kMet l yX7_factorial cX7_factorial 3 (some .int) rm_X7_factorial D (kTY cI cC cZ) [.int p0] (WD0 cI cC cZ) sz (kQI D (kTY cI cC cZ) (va_A (WD0 cI cC cZ) sz) rr (WD0 cI cC cZ)) := by
  refine kEnter (lv := [(0, .int p0)]) (own := RX7) (by decide) rfl (Nat.le_of_ble_eq_true rfl) rfl ?_
  intro p e s m below meth c hsz C0 hP hD hS ls hl
  generalize (va_A (WD0 cI cC cZ) sz) = A at C0 hD hS ⊢
  clear hsz hS
  obtain ⟨H, hHs⟩ : ∃ H : Heap, H = s.heap := ⟨_, rfl⟩
  have hS : va_S A s.heap H [] := by rw [hHs]; exact va_S.rf
  rw [← hHs] at hP ⊢
  obtain ⟨hx, hb, hr, hml, hown, hts, hK, hN, hA, hlocks, hF⟩ := id C0
  have h := hf
  unfold f_X7_factorial at h
  refine lv_iconst (v := (1 : Int32)) hx hb dX7_factorial_0 (by decide) ?_
  refine lv_istore_n (lv' := [(1, .int (1 : Int32)), (0, .int p0)]) hx hb dX7_factorial_1 rfl hl (by decide) rfl (fun ls hl => ?_)
  refine lv_iconst (v := (2 : Int32)) hx hb dX7_factorial_2 (by decide) ?_
  refine lv_istore_n (lv' := [(2, .int (2 : Int32)), (1, .int (1 : Int32)), (0, .int p0)]) hx hb dX7_factorial_3 rfl hl (by decide) rfl (fun ls hl => ?_)
  exact wl_X7_factorial_4 C0  _ _ _ h _ _ hP hD hS _ (lv_sub hl [2, 1, 0] rfl)
abbrev rm_X7_manyBy : Room := { frames := 8, cells := 0, slots := 0, locals := 206 }
noncomputable def f_X7_manyBy (M_plan : Nat → Int32) (M_page : Nat → Int32) (p1 : Int32) : Option (Int32) := (f_X7_servedBy_page M_plan M_page p1 (M_page (Int32.toNatClampNeg (2 : Int32)))).bind (fun r2 => (f_X7_ones r2).bind (fun r4 => some r4))
set_option maxHeartbeats 4000000 in
set_option maxRecDepth 100000 in
theorem c_X7_manyBy (l : Launch) (D : va_G) (cI cC cZ : ClassId) (a_M a_M_text a_M_plan a_M_read a_M_readPage a_M_page a_M_trial a_M_book a_M_kept a_M_isKept a_M_seenPoint a_M_seenSum a_M_seenWas : Nat) (sz : Nat) (M_thrown : Int32) (M_textSize : Int32) (M_place : Int32) (M_doings : Int32) (M_seen : Int32) (M_seed : Int64) (M_bestSet : Int32) (M_text : Nat → Int32) (M_plan : Nat → Int32) (M_read : Nat → Int32) (M_readPage : Nat → Int32) (M_page : Nat → Int32) (M_trial : Nat → Int32) (M_book : Nat → Int32) (M_kept : Nat → Int32) (M_isKept : Nat → Int32) (M_seenPoint : Nat → Int32) (M_seenSum : Nat → Int32) (M_seenWas : Nat → Int32) (p1 : Int32) (rr : Int32) (hf : f_X7_manyBy M_plan M_page p1 = some rr) : kMet l yX7_manyBy cX7_manyBy 2 (some .int) rm_X7_manyBy D (kTY cI cC cZ) [.ref a_M, .int p1] (WD16 cI cC cZ a_M a_M_text a_M_plan a_M_read a_M_readPage a_M_page a_M_trial a_M_book a_M_kept a_M_isKept a_M_seenPoint a_M_seenSum a_M_seenWas M_thrown M_textSize M_place M_doings M_seen M_seed M_bestSet M_text M_plan M_read M_readPage M_page M_trial M_book M_kept M_isKept M_seenPoint M_seenSum M_seenWas) sz (kQI D (kTY cI cC cZ) (va_A (WD16 cI cC cZ a_M a_M_text a_M_plan a_M_read a_M_readPage a_M_page a_M_trial a_M_book a_M_kept a_M_isKept a_M_seenPoint a_M_seenSum a_M_seenWas M_thrown M_textSize M_place M_doings M_seen M_seed M_bestSet M_text M_plan M_read M_readPage M_page M_trial M_book M_kept M_isKept M_seenPoint M_seenSum M_seenWas) sz) rr (WD16 cI cC cZ a_M a_M_text a_M_plan a_M_read a_M_readPage a_M_page a_M_trial a_M_book a_M_kept a_M_isKept a_M_seenPoint a_M_seenSum a_M_seenWas M_thrown M_textSize M_place M_doings M_seen M_seed M_bestSet M_text M_plan M_read M_readPage M_page M_trial M_book M_kept M_isKept M_seenPoint M_seenSum M_seenWas)) := by
  refine kEnter (lv := [(0, .ref a_M), (1, .int p1)]) (own := RX7) (by decide) rfl (Nat.le_of_ble_eq_true rfl) rfl ?_
  intro p e s m below meth c hsz C0 hP hD hS ls hl
  generalize (va_A (WD16 cI cC cZ a_M a_M_text a_M_plan a_M_read a_M_readPage a_M_page a_M_trial a_M_book a_M_kept a_M_isKept a_M_seenPoint a_M_seenSum a_M_seenWas M_thrown M_textSize M_place M_doings M_seen M_seed M_bestSet M_text M_plan M_read M_readPage M_page M_trial M_book M_kept M_isKept M_seenPoint M_seenSum M_seenWas) sz) = A at C0 hD hS ⊢
  clear hsz hS
  obtain ⟨H, hHs⟩ : ∃ H : Heap, H = s.heap := ⟨_, rfl⟩
  have hS : va_S A s.heap H [] := by rw [hHs]; exact va_S.rf
  rw [← hHs] at hP ⊢
  obtain ⟨hx, hb, hr, hml, hown, hts, hK, hN, hA, hlocks, hF⟩ := id C0
  have h := hf
  unfold f_X7_manyBy at h
  refine lv_aload_n hx hb dX7_manyBy_0 rfl (lv_at hl 0 rfl) ?_
  refine lv_aload_n hx hb dX7_manyBy_1 rfl (lv_at hl 0 rfl) ?_
  refine va_get (D := D) (ci := 7) (v := .ref a_M_page) (C := RX7) (T := TX7) (N := 19) hx hb hts inlX7 hown hK hP 0 rfl rfl 7 (by decide) (hts _ kw_88) (fun _ h9 => h9) rfl dX7_manyBy_2 ?_
  refine lv_iload_n hx hb dX7_manyBy_5 rfl (lv_at hl 1 rfl) ?_
  refine lv_aload_n hx hb dX7_manyBy_6 rfl (lv_at hl 0 rfl) ?_
  refine va_get (D := D) (ci := 7) (v := .ref a_M_page) (C := RX7) (T := TX7) (N := 19) hx hb hts inlX7 hown hK hP 0 rfl rfl 7 (by decide) (hts _ kw_88) (fun _ h9 => h9) rfl dX7_manyBy_7 ?_
  refine lv_iconst (v := (2 : Int32)) hx hb dX7_manyBy_10 (by decide) ?_
  refine va_iald hx hb hK hP 5 0 rfl rfl (show ¬ ((2 : Int32) < 0 ∨ 9 ≤ Int32.toNatClampNeg (2 : Int32)) by decide) dX7_manyBy_11 ?_
  obtain ⟨r2, hc1, h⟩ := oc_bind h
  refine kro_i (wc := (WD16 cI cC cZ a_M a_M_text a_M_plan a_M_read a_M_readPage a_M_page a_M_trial a_M_book a_M_kept a_M_isKept a_M_seenPoint a_M_seenSum a_M_seenWas M_thrown M_textSize M_place M_doings M_seen M_seed M_bestSet M_text M_plan M_read M_readPage M_page M_trial M_book M_kept M_isKept M_seenPoint M_seenSum M_seenWas)) C0 hP hD hS [0, 1, 2, 3, 4, 5, 6, 7, 8, 9, 10, 11, 12] rfl (kV (n := 3) (As := [.ref a_M_page, .int p1, .int (M_page (Int32.toNatClampNeg (2 : Int32)))]) (rest := []) (wc := (WD16 cI cC cZ a_M a_M_text a_M_plan a_M_read a_M_readPage a_M_page a_M_trial a_M_book a_M_kept a_M_isKept a_M_seenPoint a_M_seenSum a_M_seenWas M_thrown M_textSize M_place M_doings M_seen M_seed M_bestSet M_text M_plan M_read M_readPage M_page M_trial M_book M_kept M_isKept M_seenPoint M_seenSum M_seenWas)) (C := RX7) C0 hP hD hS [0, 1, 2, 3, 4, 5, 6, 7, 8, 9, 10, 11, 12] rfl (by decide) (c_X7_servedBy_page l D cI cC cZ a_M a_M_text a_M_plan a_M_read a_M_readPage a_M_page a_M_trial a_M_book a_M_kept a_M_isKept a_M_seenPoint a_M_seenSum a_M_seenWas H.size M_thrown M_textSize M_place M_doings M_seen M_seed M_bestSet M_text M_plan M_read M_readPage M_page M_trial M_book M_kept M_isKept M_seenPoint M_seenSum M_seenWas p1 (M_page (Int32.toNatClampNeg (2 : Int32))) r2 hc1) kw_553 kw_550 kw_551 kw_552 kw_5 (by decide +kernel) (by decide) rfl rfl rfl hl.1 rfl (Nat.le_of_ble_eq_true rfl) ⟨Nat.zero_le _, Nat.zero_le _⟩ dX7_manyBy_12) (fun H locs hP hS => ?_)
  obtain ⟨r4, hc3, h⟩ := oc_bind h
  refine kro_i (wc := (WD0 cI cC cZ)) C0 hP hD hS [] rfl (kS (n := 1) (As := [.int r2]) (rest := []) (wc := (WD0 cI cC cZ)) C0 hP hD hS [] rfl (by decide) (c_X7_ones l D cI cC cZ  H.size  r2 r4 hc3) kw_464 kw_462 kw_463 kw_5 (by decide +kernel) (by decide) rfl hl.1 rfl (Nat.le_of_ble_eq_true rfl) ⟨Nat.zero_le _, Nat.zero_le _⟩ dX7_manyBy_15) (fun H locs hP hS => ?_)
  cases h
  exact kret_i C0 hP hD hS rfl dX7_manyBy_18
abbrev rm_X7_share : Room := { frames := 9, cells := 0, slots := 0, locals := 227 }
noncomputable def bk_X7_share_127  (M_thrown : Int32) (p2 : Int32) (p4 : Int32) (p5 : Int32) : Option (Int32 × Int32) := (f_X7_factorial p4).bind (fun r2 => (f_X7_fraction p5 r2 p2).bind (fun r4 => some (r4, M_thrown)))
set_option maxHeartbeats 4000000 in
set_option maxRecDepth 100000 in
theorem wk_X7_share_127 {p : Program} {l : Launch} {e : Env} {s : State} {m : MethodId} {args : Array Value} {below : List Frame} {meth : Method} {c : Code} {D : va_G} {cI cC cZ : ClassId} {A : Nat → Prop} {a_M a_M_text a_M_plan a_M_read a_M_readPage a_M_page a_M_trial a_M_book a_M_kept a_M_isKept a_M_seenPoint a_M_seenSum a_M_seenWas : Nat} {M_thrown : Int32} {M_textSize : Int32} {M_place : Int32} {M_doings : Int32} {M_seen : Int32} {M_seed : Int64} {M_bestSet : Int32} {M_text : Nat → Int32} {M_plan : Nat → Int32} {M_read : Nat → Int32} {M_readPage : Nat → Int32} {M_page : Nat → Int32} {M_trial : Nat → Int32} {M_book : Nat → Int32} {M_kept : Nat → Int32} {M_isKept : Nat → Int32} {M_seenPoint : Nat → Int32} {M_seenSum : Nat → Int32} {M_seenWas : Nat → Int32} {p2 : Int32} {p4 : Int32} {p5 : Int32}  {rr : Int32} {u_M_thrown : Int32} (C0 : kC p s m args meth c D (kTY cI cC cZ) cX7_share (some .int) 8 RX7 A)  (h : bk_X7_share_127  M_thrown p2 p4 p5 = some (rr, u_M_thrown)) {H : Heap} {locs : List Loc} (hP : va_P D vwCl (WD16 cI cC cZ a_M a_M_text a_M_plan a_M_read a_M_readPage a_M_page a_M_trial a_M_book a_M_kept a_M_isKept a_M_seenPoint a_M_seenSum a_M_seenWas M_thrown M_textSize M_place M_doings M_seen M_seed M_bestSet M_text M_plan M_read M_readPage M_page M_trial M_book M_kept M_isKept M_seenPoint M_seenSum M_seenWas) H) (hD : va_D A (WD16 cI cC cZ a_M a_M_text a_M_plan a_M_read a_M_readPage a_M_page a_M_trial a_M_book a_M_kept a_M_isKept a_M_seenPoint a_M_seenSum a_M_seenWas M_thrown M_textSize M_place M_doings M_seen M_seed M_bestSet M_text M_plan M_read M_readPage M_page M_trial M_book M_kept M_isKept M_seenPoint M_seenSum M_seenWas)) (hS : va_S A s.heap H locs) {ls : Array Slot} (hl : lv_has ls 8 [(2, .int p2), (4, .int p4), (5, .int p5)]) : W p l e rm_X7_share s m args below meth c H locs 0 0 (MQ below (kQI D (kTY cI cC cZ) A rr (WD16 cI cC cZ a_M a_M_text a_M_plan a_M_read a_M_readPage a_M_page a_M_trial a_M_book a_M_kept a_M_isKept a_M_seenPoint a_M_seenSum a_M_seenWas u_M_thrown M_textSize M_place M_doings M_seen M_seed M_bestSet M_text M_plan M_read M_readPage M_page M_trial M_book M_kept M_isKept M_seenPoint M_seenSum M_seenWas)) args s 0 0 A) (F0 m 127 ls []) := by
  obtain ⟨hx, hb, hr, hml, hown, hts, hK, hN, hA, hlocks, hF⟩ := id C0
  unfold bk_X7_share_127 at h
  refine lv_iload hx hb dX7_share_127 (lv_at hl 2 rfl) ?_
  refine lv_iload hx hb dX7_share_129 (lv_at hl 1 rfl) ?_
  obtain ⟨r2, hc1, h⟩ := oc_bind h
  refine kro_i (wc := (WD0 cI cC cZ)) C0 hP hD hS [] rfl (kS (n := 1) (As := [.int p4]) (rest := [.int p5]) (wc := (WD0 cI cC cZ)) C0 hP hD hS [] rfl (by decide) (c_X7_factorial l D cI cC cZ  H.size  p4 r2 hc1) kw_729 kw_727 kw_728 kw_5 (by decide +kernel) (by decide) rfl hl.1 rfl (Nat.le_of_ble_eq_true rfl) ⟨Nat.zero_le _, Nat.zero_le _⟩ dX7_share_131) (fun H locs hP hS => ?_)
  refine lv_iload_n hx hb dX7_share_134 rfl (lv_at hl 0 rfl) ?_
  obtain ⟨r4, hc3, h⟩ := oc_bind h
  refine kro_i (wc := (WD0 cI cC cZ)) C0 hP hD hS [] rfl (kS (n := 3) (As := [.int p5, .int r2, .int p2]) (rest := []) (wc := (WD0 cI cC cZ)) C0 hP hD hS [] rfl (by decide) (c_X7_fraction l D cI cC cZ  H.size  p5 r2 p2 r4 hc3) kw_736 kw_734 kw_735 kw_5 (by decide +kernel) (by decide) rfl hl.1 rfl (Nat.le_of_ble_eq_true rfl) ⟨Nat.zero_le _, Nat.zero_le _⟩ dX7_share_135) (fun H locs hP hS => ?_)
  cases h
  exact kret_i C0 hP hD hS rfl dX7_share_138
noncomputable def bk_X7_share_46 (k46 : Int32 → Int32 → Option (Int32 × Int32)) (M_thrown : Int32) (M_plan : Nat → Int32) (M_page : Nat → Int32) (p1 : Int32) (p2 : Int32) (p3 : Int32) (p4 : Int32) (p5 : Int32) (p6 : Int32) : Option (Int32 × Int32) := (f_X7_spots M_plan).bind (fun r2 => if ((1 : Int32) <<< (r2 &&& 31)) ≤ p6 then (bk_X7_share_127  M_thrown p2 p4 p5) else (if (p6 &&& (p3 ^^^ (-1 : Int32))) = 0 then ((f_X7_has p6 p1).bind (fun r7 => if r7 = 0 then ((f_X7_ones p6).bind (fun r11 => (f_X7_factorial r11).bind (fun r13 => (f_X7_factorial ((p4 - (1 : Int32)) - r11)).bind (fun r15 => (f_X7_manyBy M_plan M_page (p6 ||| ((1 : Int32) <<< (p1 &&& 31)))).bind (fun r17 => (f_X7_manyBy M_plan M_page p6).bind (fun r19 => nm_ (p5 + ((r13 * r15) * (r17 - r19))) (fun t20 => nm_ (p6 + (1 : Int32)) (fun t21 => k46 t20 t21)))))))) else (nm_ (p6 + (1 : Int32)) (fun t9 => k46 p5 t9)))) else (nm_ (p6 + (1 : Int32)) (fun t5 => k46 p5 t5))))
set_option maxHeartbeats 4000000 in
set_option maxRecDepth 100000 in
theorem wk_X7_share_46 {p : Program} {l : Launch} {e : Env} {s : State} {m : MethodId} {args : Array Value} {below : List Frame} {meth : Method} {c : Code} {D : va_G} {cI cC cZ : ClassId} {A : Nat → Prop} {a_M a_M_text a_M_plan a_M_read a_M_readPage a_M_page a_M_trial a_M_book a_M_kept a_M_isKept a_M_seenPoint a_M_seenSum a_M_seenWas : Nat} {M_thrown : Int32} {M_textSize : Int32} {M_place : Int32} {M_doings : Int32} {M_seen : Int32} {M_seed : Int64} {M_bestSet : Int32} {M_text : Nat → Int32} {M_plan : Nat → Int32} {M_read : Nat → Int32} {M_readPage : Nat → Int32} {M_page : Nat → Int32} {M_trial : Nat → Int32} {M_book : Nat → Int32} {M_kept : Nat → Int32} {M_isKept : Nat → Int32} {M_seenPoint : Nat → Int32} {M_seenSum : Nat → Int32} {M_seenWas : Nat → Int32} {p1 : Int32} {p2 : Int32} {p3 : Int32} {p4 : Int32} {p5 : Int32} {p6 : Int32} {k46 : Int32 → Int32 → Option (Int32 × Int32)} {rr : Int32} {u_M_thrown : Int32} (C0 : kC p s m args meth c D (kTY cI cC cZ) cX7_share (some .int) 8 RX7 A) (hk46 : ∀ (p5_k : Int32) (p6_k : Int32), k46 p5_k p6_k = some (rr, u_M_thrown) → ∀ (H : Heap) (locs : List Loc), va_P D vwCl (WD16 cI cC cZ a_M a_M_text a_M_plan a_M_read a_M_readPage a_M_page a_M_trial a_M_book a_M_kept a_M_isKept a_M_seenPoint a_M_seenSum a_M_seenWas M_thrown M_textSize M_place M_doings M_seen M_seed M_bestSet M_text M_plan M_read M_readPage M_page M_trial M_book M_kept M_isKept M_seenPoint M_seenSum M_seenWas) H → va_D A (WD16 cI cC cZ a_M a_M_text a_M_plan a_M_read a_M_readPage a_M_page a_M_trial a_M_book a_M_kept a_M_isKept a_M_seenPoint a_M_seenSum a_M_seenWas M_thrown M_textSize M_place M_doings M_seen M_seed M_bestSet M_text M_plan M_read M_readPage M_page M_trial M_book M_kept M_isKept M_seenPoint M_seenSum M_seenWas) → va_S A s.heap H locs → ∀ ls : Array Slot, lv_has ls 8 [(0, .ref a_M), (1, .int p1), (2, .int p2), (3, .int p3), (4, .int p4), (5, .int p5_k), (6, .int p6_k)] → W p l e rm_X7_share s m args below meth c H locs 0 0 (MQ below (kQI D (kTY cI cC cZ) A rr (WD16 cI cC cZ a_M a_M_text a_M_plan a_M_read a_M_readPage a_M_page a_M_trial a_M_book a_M_kept a_M_isKept a_M_seenPoint a_M_seenSum a_M_seenWas u_M_thrown M_textSize M_place M_doings M_seen M_seed M_bestSet M_text M_plan M_read M_readPage M_page M_trial M_book M_kept M_isKept M_seenPoint M_seenSum M_seenWas)) args s 0 0 A) (F0 m 46 ls [])) (h : bk_X7_share_46 k46 M_thrown M_plan M_page p1 p2 p3 p4 p5 p6 = some (rr, u_M_thrown)) {H : Heap} {locs : List Loc} (hP : va_P D vwCl (WD16 cI cC cZ a_M a_M_text a_M_plan a_M_read a_M_readPage a_M_page a_M_trial a_M_book a_M_kept a_M_isKept a_M_seenPoint a_M_seenSum a_M_seenWas M_thrown M_textSize M_place M_doings M_seen M_seed M_bestSet M_text M_plan M_read M_readPage M_page M_trial M_book M_kept M_isKept M_seenPoint M_seenSum M_seenWas) H) (hD : va_D A (WD16 cI cC cZ a_M a_M_text a_M_plan a_M_read a_M_readPage a_M_page a_M_trial a_M_book a_M_kept a_M_isKept a_M_seenPoint a_M_seenSum a_M_seenWas M_thrown M_textSize M_place M_doings M_seen M_seed M_bestSet M_text M_plan M_read M_readPage M_page M_trial M_book M_kept M_isKept M_seenPoint M_seenSum M_seenWas)) (hS : va_S A s.heap H locs) {ls : Array Slot} (hl : lv_has ls 8 [(0, .ref a_M), (1, .int p1), (2, .int p2), (3, .int p3), (4, .int p4), (5, .int p5), (6, .int p6)]) : W p l e rm_X7_share s m args below meth c H locs 0 0 (MQ below (kQI D (kTY cI cC cZ) A rr (WD16 cI cC cZ a_M a_M_text a_M_plan a_M_read a_M_readPage a_M_page a_M_trial a_M_book a_M_kept a_M_isKept a_M_seenPoint a_M_seenSum a_M_seenWas u_M_thrown M_textSize M_place M_doings M_seen M_seed M_bestSet M_text M_plan M_read M_readPage M_page M_trial M_book M_kept M_isKept M_seenPoint M_seenSum M_seenWas)) args s 0 0 A) (F0 m 46 ls []) := by
  obtain ⟨hx, hb, hr, hml, hown, hts, hK, hN, hA, hlocks, hF⟩ := id C0
  unfold bk_X7_share_46 at h
  refine lv_iload hx hb dX7_share_46 (lv_at hl 6 rfl) ?_
  refine lv_iconst (v := (1 : Int32)) hx hb dX7_share_48 (by decide) ?_
  refine lv_aload_n hx hb dX7_share_49 rfl (lv_at hl 0 rfl) ?_
  obtain ⟨r2, hc1, h⟩ := oc_bind h
  refine kro_i (wc := (WD16 cI cC cZ a_M a_M_text a_M_plan a_M_read a_M_readPage a_M_page a_M_trial a_M_book a_M_kept a_M_isKept a_M_seenPoint a_M_seenSum a_M_seenWas M_thrown M_textSize M_place M_doings M_seen M_seed M_bestSet M_text M_plan M_read M_readPage M_page M_trial M_book M_kept M_isKept M_seenPoint M_seenSum M_seenWas)) C0 hP hD hS [0, 1, 2, 3, 4, 5, 6, 7, 8, 9, 10, 11, 12] rfl (kV (n := 0) (As := []) (rest := [.int (1 : Int32), .int p6]) (wc := (WD16 cI cC cZ a_M a_M_text a_M_plan a_M_read a_M_readPage a_M_page a_M_trial a_M_book a_M_kept a_M_isKept a_M_seenPoint a_M_seenSum a_M_seenWas M_thrown M_textSize M_place M_doings M_seen M_seed M_bestSet M_text M_plan M_read M_readPage M_page M_trial M_book M_kept M_isKept M_seenPoint M_seenSum M_seenWas)) (C := RX7) C0 hP hD hS [0, 1, 2, 3, 4, 5, 6, 7, 8, 9, 10, 11, 12] rfl (by decide) (c_X7_spots l D cI cC cZ a_M a_M_text a_M_plan a_M_read a_M_readPage a_M_page a_M_trial a_M_book a_M_kept a_M_isKept a_M_seenPoint a_M_seenSum a_M_seenWas H.size M_thrown M_textSize M_place M_doings M_seen M_seed M_bestSet M_text M_plan M_read M_readPage M_page M_trial M_book M_kept M_isKept M_seenPoint M_seenSum M_seenWas  r2 hc1) kw_280 kw_277 kw_278 kw_279 kw_5 (by decide +kernel) (by decide) rfl rfl rfl hl.1 rfl (Nat.le_of_ble_eq_true rfl) ⟨Nat.zero_le _, Nat.zero_le _⟩ dX7_share_50) (fun H locs hP hS => ?_)
  refine lv_ishl hx hb dX7_share_53 ?_
  refine lv_icmp_ge (tgt := 127) hx hb dX7_share_54 (by decide) (fun c3 => ?_) (fun c3 => ?_)
  · have h := oc_t c3 h
    exact wk_X7_share_127 C0  h hP hD hS (lv_sub hl [2, 4, 5] rfl)
  · have h := oc_f c3 h
    refine lv_iload hx hb dX7_share_57 (lv_at hl 6 rfl) ?_
    refine lv_iload_n hx hb dX7_share_59 rfl (lv_at hl 3 rfl) ?_
    refine lv_iconst (v := (-1 : Int32)) hx hb dX7_share_60 (by decide) ?_
    refine lv_ixor hx hb dX7_share_61 ?_
    refine lv_iand hx hb dX7_share_62 ?_
    refine lv_if_ne (tgt := 121) hx hb dX7_share_63 (by decide) (fun c4 => ?_) (fun c4 => ?_)
    · have h := oc_f c4 h
      obtain ⟨t5, e_t5⟩ : ∃ y : Int32, y = p6 + (1 : Int32) := ⟨_, rfl⟩
      have h := oc_nm e_t5 h
      refine lv_iinc (v := t5) (lv' := [(6, .int t5), (0, .ref a_M), (1, .int p1), (2, .int p2), (3, .int p3), (4, .int p4), (5, .int p5)]) hx hb dX7_share_121 hl (k := 6) rfl (by rw [e_t5]; rfl) (by decide) rfl (fun ls hl => ?_)
      refine lv_goto (tgt := 46) hx hb dX7_share_124 (by decide) ?_
      exact hk46 _ _ h _ _ hP hD hS _ (lv_sub hl [1, 2, 3, 4, 5, 6, 0] rfl)
    · have h := oc_t c4 h
      refine lv_iload hx hb dX7_share_66 (lv_at hl 6 rfl) ?_
      refine lv_iload_n hx hb dX7_share_68 rfl (lv_at hl 1 rfl) ?_
      obtain ⟨r7, hc6, h⟩ := oc_bind h
      refine kro_i (wc := (WD0 cI cC cZ)) C0 hP hD hS [] rfl (kS (n := 2) (As := [.int p6, .int p1]) (rest := []) (wc := (WD0 cI cC cZ)) C0 hP hD hS [] rfl (by decide) (c_X7_has l D cI cC cZ  H.size  p6 p1 r7 hc6) kw_371 kw_369 kw_370 kw_5 (by decide +kernel) (by decide) rfl hl.1 rfl (Nat.le_of_ble_eq_true rfl) ⟨Nat.zero_le _, Nat.zero_le _⟩ dX7_share_69) (fun H locs hP hS => ?_)
      refine lv_if_ne (tgt := 121) hx hb dX7_share_72 (by decide) (fun c8 => ?_) (fun c8 => ?_)
      · have h := oc_f c8 h
        obtain ⟨t9, e_t9⟩ : ∃ y : Int32, y = p6 + (1 : Int32) := ⟨_, rfl⟩
        have h := oc_nm e_t9 h
        refine lv_iinc (v := t9) (lv' := [(6, .int t9), (0, .ref a_M), (1, .int p1), (2, .int p2), (3, .int p3), (4, .int p4), (5, .int p5)]) hx hb dX7_share_121 hl (k := 6) rfl (by rw [e_t9]; rfl) (by decide) rfl (fun ls hl => ?_)
        refine lv_goto (tgt := 46) hx hb dX7_share_124 (by decide) ?_
        exact hk46 _ _ h _ _ hP hD hS _ (lv_sub hl [1, 2, 3, 4, 5, 6, 0] rfl)
      · have h := oc_t c8 h
        refine lv_iload hx hb dX7_share_75 (lv_at hl 6 rfl) ?_
        obtain ⟨r11, hc10, h⟩ := oc_bind h
        refine kro_i (wc := (WD0 cI cC cZ)) C0 hP hD hS [] rfl (kS (n := 1) (As := [.int p6]) (rest := []) (wc := (WD0 cI cC cZ)) C0 hP hD hS [] rfl (by decide) (c_X7_ones l D cI cC cZ  H.size  p6 r11 hc10) kw_464 kw_462 kw_463 kw_5 (by decide +kernel) (by decide) rfl hl.1 rfl (Nat.le_of_ble_eq_true rfl) ⟨Nat.zero_le _, Nat.zero_le _⟩ dX7_share_77) (fun H locs hP hS => ?_)
        refine lv_istore (lv' := [(7, .int r11), (0, .ref a_M), (1, .int p1), (2, .int p2), (3, .int p3), (4, .int p4), (5, .int p5), (6, .int p6)]) hx hb dX7_share_80 hl (by decide) rfl (fun ls hl => ?_)
        refine lv_iload hx hb dX7_share_82 (lv_at hl 6 rfl) ?_
        refine lv_iload hx hb dX7_share_84 (lv_at hl 0 rfl) ?_
        obtain ⟨r13, hc12, h⟩ := oc_bind h
        refine kro_i (wc := (WD0 cI cC cZ)) C0 hP hD hS [] rfl (kS (n := 1) (As := [.int r11]) (rest := [.int p5]) (wc := (WD0 cI cC cZ)) C0 hP hD hS [] rfl (by decide) (c_X7_factorial l D cI cC cZ  H.size  r11 r13 hc12) kw_729 kw_727 kw_728 kw_5 (by decide +kernel) (by decide) rfl hl.1 rfl (Nat.le_of_ble_eq_true rfl) ⟨Nat.zero_le _, Nat.zero_le _⟩ dX7_share_86) (fun H locs hP hS => ?_)
        refine lv_iload hx hb dX7_share_89 (lv_at hl 5 rfl) ?_
        refine lv_iconst (v := (1 : Int32)) hx hb dX7_share_91 (by decide) ?_
        refine lv_isub hx hb dX7_share_92 ?_
        refine lv_iload hx hb dX7_share_93 (lv_at hl 0 rfl) ?_
        refine lv_isub hx hb dX7_share_95 ?_
        obtain ⟨r15, hc14, h⟩ := oc_bind h
        refine kro_i (wc := (WD0 cI cC cZ)) C0 hP hD hS [] rfl (kS (n := 1) (As := [.int ((p4 - (1 : Int32)) - r11)]) (rest := [.int r13, .int p5]) (wc := (WD0 cI cC cZ)) C0 hP hD hS [] rfl (by decide) (c_X7_factorial l D cI cC cZ  H.size  ((p4 - (1 : Int32)) - r11) r15 hc14) kw_729 kw_727 kw_728 kw_5 (by decide +kernel) (by decide) rfl hl.1 rfl (Nat.le_of_ble_eq_true rfl) ⟨Nat.zero_le _, Nat.zero_le _⟩ dX7_share_96) (fun H locs hP hS => ?_)
        refine lv_imul hx hb dX7_share_99 ?_
        refine lv_aload_n hx hb dX7_share_100 rfl (lv_at hl 1 rfl) ?_
        refine lv_iload hx hb dX7_share_101 (lv_at hl 7 rfl) ?_
        refine lv_iconst (v := (1 : Int32)) hx hb dX7_share_103 (by decide) ?_
        refine lv_iload_n hx hb dX7_share_104 rfl (lv_at hl 2 rfl) ?_
        refine lv_ishl hx hb dX7_share_105 ?_
        refine lv_ior hx hb dX7_share_106 ?_
        obtain ⟨r17, hc16, h⟩ := oc_bind h
        refine kro_i (wc := (WD16 cI cC cZ a_M a_M_text a_M_plan a_M_read a_M_readPage a_M_page a_M_trial a_M_book a_M_kept a_M_isKept a_M_seenPoint a_M_seenSum a_M_seenWas M_thrown M_textSize M_place M_doings M_seen M_seed M_bestSet M_text M_plan M_read M_readPage M_page M_trial M_book M_kept M_isKept M_seenPoint M_seenSum M_seenWas)) C0 hP hD hS [0, 1, 2, 3, 4, 5, 6, 7, 8, 9, 10, 11, 12] rfl (kV (n := 1) (As := [.int (p6 ||| ((1 : Int32) <<< (p1 &&& 31)))]) (rest := [.int (r13 * r15), .int p5]) (wc := (WD16 cI cC cZ a_M a_M_text a_M_plan a_M_read a_M_readPage a_M_page a_M_trial a_M_book a_M_kept a_M_isKept a_M_seenPoint a_M_seenSum a_M_seenWas M_thrown M_textSize M_place M_doings M_seen M_seed M_bestSet M_text M_plan M_read M_readPage M_page M_trial M_book M_kept M_isKept M_seenPoint M_seenSum M_seenWas)) (C := RX7) C0 hP hD hS [0, 1, 2, 3, 4, 5, 6, 7, 8, 9, 10, 11, 12] rfl (by decide) (c_X7_manyBy l D cI cC cZ a_M a_M_text a_M_plan a_M_read a_M_readPage a_M_page a_M_trial a_M_book a_M_kept a_M_isKept a_M_seenPoint a_M_seenSum a_M_seenWas H.size M_thrown M_textSize M_place M_doings M_seen M_seed M_bestSet M_text M_plan M_read M_readPage M_page M_trial M_book M_kept M_isKept M_seenPoint M_seenSum M_seenWas (p6 ||| ((1 : Int32) <<< (p1 &&& 31))) r17 hc16) kw_733 kw_730 kw_731 kw_732 kw_5 (by decide +kernel) (by decide) rfl rfl rfl hl.1 rfl (Nat.le_of_ble_eq_true rfl) ⟨Nat.zero_le _, Nat.zero_le _⟩ dX7_share_107) (fun H locs hP hS => ?_)
        refine lv_aload_n hx hb dX7_share_110 rfl (lv_at hl 1 rfl) ?_
        refine lv_iload hx hb dX7_share_111 (lv_at hl 7 rfl) ?_
        obtain ⟨r19, hc18, h⟩ := oc_bind h
        refine kro_i (wc := (WD16 cI cC cZ a_M a_M_text a_M_plan a_M_read a_M_readPage a_M_page a_M_trial a_M_book a_M_kept a_M_isKept a_M_seenPoint a_M_seenSum a_M_seenWas M_thrown M_textSize M_place M_doings M_seen M_seed M_bestSet M_text M_plan M_read M_readPage M_page M_trial M_book M_kept M_isKept M_seenPoint M_seenSum M_seenWas)) C0 hP hD hS [0, 1, 2, 3, 4, 5, 6, 7, 8, 9, 10, 11, 12] rfl (kV (n := 1) (As := [.int p6]) (rest := [.int r17, .int (r13 * r15), .int p5]) (wc := (WD16 cI cC cZ a_M a_M_text a_M_plan a_M_read a_M_readPage a_M_page a_M_trial a_M_book a_M_kept a_M_isKept a_M_seenPoint a_M_seenSum a_M_seenWas M_thrown M_textSize M_place M_doings M_seen M_seed M_bestSet M_text M_plan M_read M_readPage M_page M_trial M_book M_kept M_isKept M_seenPoint M_seenSum M_seenWas)) (C := RX7) C0 hP hD hS [0, 1, 2, 3, 4, 5, 6, 7, 8, 9, 10, 11, 12] rfl (by decide) (c_X7_manyBy l D cI cC cZ a_M a_M_text a_M_plan a_M_read a_M_readPage a_M_page a_M_trial a_M_book a_M_kept a_M_isKept a_M_seenPoint a_M_seenSum a_M_seenWas H.size M_thrown M_textSize M_place M_doings M_seen M_seed M_bestSet M_text M_plan M_read M_readPage M_page M_trial M_book M_kept M_isKept M_seenPoint M_seenSum M_seenWas p6 r19 hc18) kw_733 kw_730 kw_731 kw_732 kw_5 (by decide +kernel) (by decide) rfl rfl rfl hl.1 rfl (Nat.le_of_ble_eq_true rfl) ⟨Nat.zero_le _, Nat.zero_le _⟩ dX7_share_113) (fun H locs hP hS => ?_)
        refine lv_isub hx hb dX7_share_116 ?_
        refine lv_imul hx hb dX7_share_117 ?_
        refine lv_iadd hx hb dX7_share_118 ?_
        refine lv_topi (fun t20 e_t20 => ?_)
        have h := oc_nm e_t20 h
        refine lv_istore (lv' := [(5, .int t20), (7, .int r11), (0, .ref a_M), (1, .int p1), (2, .int p2), (3, .int p3), (4, .int p4), (6, .int p6)]) hx hb dX7_share_119 hl (by decide) rfl (fun ls hl => ?_)
        obtain ⟨t21, e_t21⟩ : ∃ y : Int32, y = p6 + (1 : Int32) := ⟨_, rfl⟩
        have h := oc_nm e_t21 h
        refine lv_iinc (v := t21) (lv' := [(6, .int t21), (5, .int t20), (7, .int r11), (0, .ref a_M), (1, .int p1), (2, .int p2), (3, .int p3), (4, .int p4)]) hx hb dX7_share_121 hl (k := 7) rfl (by rw [e_t21]; rfl) (by decide) rfl (fun ls hl => ?_)
        refine lv_goto (tgt := 46) hx hb dX7_share_124 (by decide) ?_
        exact hk46 _ _ h _ _ hP hD hS _ (lv_sub hl [3, 4, 5, 6, 7, 1, 0] rfl)
noncomputable def lp_X7_share_46  (M_thrown : Int32) (M_plan : Nat → Int32) (M_page : Nat → Int32) (p1 : Int32) (p2 : Int32) (p3 : Int32) (p4 : Int32) (n : Nat) : Int32 → Int32 → Option (Int32 × Int32) := Nat.rec (motive := fun _ => Int32 → Int32 → Option (Int32 × Int32)) (fun _ _ => none) (fun _ ih => bk_X7_share_46  ih M_thrown M_plan M_page p1 p2 p3 p4) n
set_option maxHeartbeats 4000000 in
set_option maxRecDepth 100000 in
theorem wl_X7_share_46 {p : Program} {l : Launch} {e : Env} {s : State} {m : MethodId} {args : Array Value} {below : List Frame} {meth : Method} {c : Code} {D : va_G} {cI cC cZ : ClassId} {A : Nat → Prop} {a_M a_M_text a_M_plan a_M_read a_M_readPage a_M_page a_M_trial a_M_book a_M_kept a_M_isKept a_M_seenPoint a_M_seenSum a_M_seenWas : Nat} {M_thrown : Int32} {M_textSize : Int32} {M_place : Int32} {M_doings : Int32} {M_seen : Int32} {M_seed : Int64} {M_bestSet : Int32} {M_text : Nat → Int32} {M_plan : Nat → Int32} {M_read : Nat → Int32} {M_readPage : Nat → Int32} {M_page : Nat → Int32} {M_trial : Nat → Int32} {M_book : Nat → Int32} {M_kept : Nat → Int32} {M_isKept : Nat → Int32} {M_seenPoint : Nat → Int32} {M_seenSum : Nat → Int32} {M_seenWas : Nat → Int32} {p1 : Int32} {p2 : Int32} {p3 : Int32} {p4 : Int32}  {rr : Int32} {u_M_thrown : Int32} (C0 : kC p s m args meth c D (kTY cI cC cZ) cX7_share (some .int) 8 RX7 A)  : ∀ (n : Nat) (p5 : Int32) (p6 : Int32), lp_X7_share_46  M_thrown M_plan M_page p1 p2 p3 p4 n p5 p6 = some (rr, u_M_thrown) → ∀ (H : Heap) (locs : List Loc), va_P D vwCl (WD16 cI cC cZ a_M a_M_text a_M_plan a_M_read a_M_readPage a_M_page a_M_trial a_M_book a_M_kept a_M_isKept a_M_seenPoint a_M_seenSum a_M_seenWas M_thrown M_textSize M_place M_doings M_seen M_seed M_bestSet M_text M_plan M_read M_readPage M_page M_trial M_book M_kept M_isKept M_seenPoint M_seenSum M_seenWas) H → va_D A (WD16 cI cC cZ a_M a_M_text a_M_plan a_M_read a_M_readPage a_M_page a_M_trial a_M_book a_M_kept a_M_isKept a_M_seenPoint a_M_seenSum a_M_seenWas M_thrown M_textSize M_place M_doings M_seen M_seed M_bestSet M_text M_plan M_read M_readPage M_page M_trial M_book M_kept M_isKept M_seenPoint M_seenSum M_seenWas) → va_S A s.heap H locs → ∀ ls : Array Slot, lv_has ls 8 [(0, .ref a_M), (1, .int p1), (2, .int p2), (3, .int p3), (4, .int p4), (5, .int p5), (6, .int p6)] → W p l e rm_X7_share s m args below meth c H locs 0 0 (MQ below (kQI D (kTY cI cC cZ) A rr (WD16 cI cC cZ a_M a_M_text a_M_plan a_M_read a_M_readPage a_M_page a_M_trial a_M_book a_M_kept a_M_isKept a_M_seenPoint a_M_seenSum a_M_seenWas u_M_thrown M_textSize M_place M_doings M_seen M_seed M_bestSet M_text M_plan M_read M_readPage M_page M_trial M_book M_kept M_isKept M_seenPoint M_seenSum M_seenWas)) args s 0 0 A) (F0 m 46 ls []) := by
  intro n
  induction n with
  | zero => intro p5 p6 h; cases (show (none : Option (Int32 × Int32)) = some _ from h)
  | succ n ih =>
    intro p5 p6 h H locs hP hD hS ls hl
    exact wk_X7_share_46 C0  (fun p5 p6 h H locs hP hD hS ls hl => ih p5 p6 h H locs hP hD hS ls hl) (show bk_X7_share_46  (lp_X7_share_46  M_thrown M_plan M_page p1 p2 p3 p4 n) M_thrown M_plan M_page p1 p2 p3 p4 p5 p6 = some _ from h) hP hD hS hl
noncomputable def f_X7_share (M_thrown : Int32) (M_plan : Nat → Int32) (M_page : Nat → Int32) (p1 : Int32) (p2 : Int32) : Option (Int32 × Int32) := (f_X7_noSpot M_plan p1).bind (fun r2 => if r2 = 0 then ((f_X7_live M_page).bind (fun r5 => (f_X7_has r5 p1).bind (fun r7 => if r7 = 0 then (some ((-3 : Int32), (0 : Int32))) else ((f_X7_ones r5).bind (fun r10 => lp_X7_share_46  (0 : Int32) M_plan M_page p1 p2 r5 r10 1000 (0 : Int32) (0 : Int32)))))) else (some ((-1 : Int32), (0 : Int32))))
set_option maxHeartbeats 4000000 in
set_option maxRecDepth 100000 in
theorem c_X7_share (l : Launch) (D : va_G) (cI cC cZ : ClassId) (a_M a_M_text a_M_plan a_M_read a_M_readPage a_M_page a_M_trial a_M_book a_M_kept a_M_isKept a_M_seenPoint a_M_seenSum a_M_seenWas : Nat) (sz : Nat) (M_thrown : Int32) (M_textSize : Int32) (M_place : Int32) (M_doings : Int32) (M_seen : Int32) (M_seed : Int64) (M_bestSet : Int32) (M_text : Nat → Int32) (M_plan : Nat → Int32) (M_read : Nat → Int32) (M_readPage : Nat → Int32) (M_page : Nat → Int32) (M_trial : Nat → Int32) (M_book : Nat → Int32) (M_kept : Nat → Int32) (M_isKept : Nat → Int32) (M_seenPoint : Nat → Int32) (M_seenSum : Nat → Int32) (M_seenWas : Nat → Int32) (p1 : Int32) (p2 : Int32) (rr : Int32) (u_M_thrown : Int32) (hf : f_X7_share M_thrown M_plan M_page p1 p2 = some (rr, u_M_thrown)) : kMet l yX7_share cX7_share 8 (some .int) rm_X7_share D (kTY cI cC cZ) [.ref a_M, .int p1, .int p2] (WD16 cI cC cZ a_M a_M_text a_M_plan a_M_read a_M_readPage a_M_page a_M_trial a_M_book a_M_kept a_M_isKept a_M_seenPoint a_M_seenSum a_M_seenWas M_thrown M_textSize M_place M_doings M_seen M_seed M_bestSet M_text M_plan M_read M_readPage M_page M_trial M_book M_kept M_isKept M_seenPoint M_seenSum M_seenWas) sz (kQI D (kTY cI cC cZ) (va_A (WD16 cI cC cZ a_M a_M_text a_M_plan a_M_read a_M_readPage a_M_page a_M_trial a_M_book a_M_kept a_M_isKept a_M_seenPoint a_M_seenSum a_M_seenWas M_thrown M_textSize M_place M_doings M_seen M_seed M_bestSet M_text M_plan M_read M_readPage M_page M_trial M_book M_kept M_isKept M_seenPoint M_seenSum M_seenWas) sz) rr (WD16 cI cC cZ a_M a_M_text a_M_plan a_M_read a_M_readPage a_M_page a_M_trial a_M_book a_M_kept a_M_isKept a_M_seenPoint a_M_seenSum a_M_seenWas u_M_thrown M_textSize M_place M_doings M_seen M_seed M_bestSet M_text M_plan M_read M_readPage M_page M_trial M_book M_kept M_isKept M_seenPoint M_seenSum M_seenWas)) := by
  refine kEnter (lv := [(0, .ref a_M), (1, .int p1), (2, .int p2)]) (own := RX7) (by decide) rfl (Nat.le_of_ble_eq_true rfl) rfl ?_
  intro p e s m below meth c hsz C0 hP hD hS ls hl
  generalize (va_A (WD16 cI cC cZ a_M a_M_text a_M_plan a_M_read a_M_readPage a_M_page a_M_trial a_M_book a_M_kept a_M_isKept a_M_seenPoint a_M_seenSum a_M_seenWas M_thrown M_textSize M_place M_doings M_seen M_seed M_bestSet M_text M_plan M_read M_readPage M_page M_trial M_book M_kept M_isKept M_seenPoint M_seenSum M_seenWas) sz) = A at C0 hD hS ⊢
  clear hsz hS
  obtain ⟨H, hHs⟩ : ∃ H : Heap, H = s.heap := ⟨_, rfl⟩
  have hS : va_S A s.heap H [] := by rw [hHs]; exact va_S.rf
  rw [← hHs] at hP ⊢
  obtain ⟨hx, hb, hr, hml, hown, hts, hK, hN, hA, hlocks, hF⟩ := id C0
  have h := hf
  unfold f_X7_share at h
  refine lv_aload_n hx hb dX7_share_0 rfl (lv_at hl 0 rfl) ?_
  refine lv_iconst (v := (0 : Int32)) hx hb dX7_share_1 (by decide) ?_
  refine va_put (D := D) (ci := 7) (v := .int (0 : Int32)) (ty := .int) (C := RX7) (T := TX7) (N := 19) hx hb hts inlX7 tyX7 tyX7_ok nmX7 hown hK hP hD hS 0 rfl rfl 0 (by decide) (hts _ kw_109) (fun _ h9 => h9) rfl (by decide +kernel) rfl rfl (Nat.le_of_ble_eq_true rfl) dX7_share_2 (fun H locs hP hD hS => ?_)
  have hP : va_P D vwCl (WD16 cI cC cZ a_M a_M_text a_M_plan a_M_read a_M_readPage a_M_page a_M_trial a_M_book a_M_kept a_M_isKept a_M_seenPoint a_M_seenSum a_M_seenWas (0 : Int32) M_textSize M_place M_doings M_seen M_seed M_bestSet M_text M_plan M_read M_readPage M_page M_trial M_book M_kept M_isKept M_seenPoint M_seenSum M_seenWas) H := hP
  have hD : va_D A (WD16 cI cC cZ a_M a_M_text a_M_plan a_M_read a_M_readPage a_M_page a_M_trial a_M_book a_M_kept a_M_isKept a_M_seenPoint a_M_seenSum a_M_seenWas (0 : Int32) M_textSize M_place M_doings M_seen M_seed M_bestSet M_text M_plan M_read M_readPage M_page M_trial M_book M_kept M_isKept M_seenPoint M_seenSum M_seenWas) := hD
  refine lv_aload_n hx hb dX7_share_5 rfl (lv_at hl 0 rfl) ?_
  refine lv_iload_n hx hb dX7_share_6 rfl (lv_at hl 1 rfl) ?_
  obtain ⟨r2, hc1, h⟩ := oc_bind h
  refine kro_i (wc := (WD16 cI cC cZ a_M a_M_text a_M_plan a_M_read a_M_readPage a_M_page a_M_trial a_M_book a_M_kept a_M_isKept a_M_seenPoint a_M_seenSum a_M_seenWas (0 : Int32) M_textSize M_place M_doings M_seen M_seed M_bestSet M_text M_plan M_read M_readPage M_page M_trial M_book M_kept M_isKept M_seenPoint M_seenSum M_seenWas)) C0 hP hD hS [0, 1, 2, 3, 4, 5, 6, 7, 8, 9, 10, 11, 12] rfl (kV (n := 1) (As := [.int p1]) (rest := []) (wc := (WD16 cI cC cZ a_M a_M_text a_M_plan a_M_read a_M_readPage a_M_page a_M_trial a_M_book a_M_kept a_M_isKept a_M_seenPoint a_M_seenSum a_M_seenWas (0 : Int32) M_textSize M_place M_doings M_seen M_seed M_bestSet M_text M_plan M_read M_readPage M_page M_trial M_book M_kept M_isKept M_seenPoint M_seenSum M_seenWas)) (C := RX7) C0 hP hD hS [0, 1, 2, 3, 4, 5, 6, 7, 8, 9, 10, 11, 12] rfl (by decide) (c_X7_noSpot l D cI cC cZ a_M a_M_text a_M_plan a_M_read a_M_readPage a_M_page a_M_trial a_M_book a_M_kept a_M_isKept a_M_seenPoint a_M_seenSum a_M_seenWas H.size (0 : Int32) M_textSize M_place M_doings M_seen M_seed M_bestSet M_text M_plan M_read M_readPage M_page M_trial M_book M_kept M_isKept M_seenPoint M_seenSum M_seenWas p1 r2 hc1) kw_299 kw_296 kw_297 kw_298 kw_5 (by decide +kernel) (by decide) rfl rfl rfl hl.1 rfl (Nat.le_of_ble_eq_true rfl) ⟨Nat.zero_le _, Nat.zero_le _⟩ dX7_share_7) (fun H locs hP hS => ?_)
  refine lv_if_eq (tgt := 15) hx hb dX7_share_10 (by decide) (fun c3 => ?_) (fun c3 => ?_)
  · have h := oc_t c3 h
    refine lv_aload_n hx hb dX7_share_15 rfl (lv_at hl 0 rfl) ?_
    refine va_get (D := D) (ci := 7) (v := .ref a_M_page) (C := RX7) (T := TX7) (N := 19) hx hb hts inlX7 hown hK hP 0 rfl rfl 7 (by decide) (hts _ kw_88) (fun _ h9 => h9) rfl dX7_share_16 ?_
    obtain ⟨r5, hc4, h⟩ := oc_bind h
    refine kro_i (wc := (WD17 cI cC cZ a_M_page M_page)) C0 hP hD hS [5] rfl (kS (n := 1) (As := [.ref a_M_page]) (rest := []) (wc := (WD17 cI cC cZ a_M_page M_page)) C0 hP hD hS [5] rfl (by decide) (c_X7_live l D cI cC cZ a_M_page H.size M_page  r5 hc4) kw_364 kw_362 kw_363 kw_5 (by decide +kernel) (by decide) rfl hl.1 rfl (Nat.le_of_ble_eq_true rfl) ⟨Nat.zero_le _, Nat.zero_le _⟩ dX7_share_19) (fun H locs hP hS => ?_)
    refine lv_istore_n (lv' := [(3, .int r5), (0, .ref a_M), (1, .int p1), (2, .int p2)]) hx hb dX7_share_22 rfl hl (by decide) rfl (fun ls hl => ?_)
    refine lv_iload_n hx hb dX7_share_23 rfl (lv_at hl 0 rfl) ?_
    refine lv_iload_n hx hb dX7_share_24 rfl (lv_at hl 2 rfl) ?_
    obtain ⟨r7, hc6, h⟩ := oc_bind h
    refine kro_i (wc := (WD0 cI cC cZ)) C0 hP hD hS [] rfl (kS (n := 2) (As := [.int r5, .int p1]) (rest := []) (wc := (WD0 cI cC cZ)) C0 hP hD hS [] rfl (by decide) (c_X7_has l D cI cC cZ  H.size  r5 p1 r7 hc6) kw_371 kw_369 kw_370 kw_5 (by decide +kernel) (by decide) rfl hl.1 rfl (Nat.le_of_ble_eq_true rfl) ⟨Nat.zero_le _, Nat.zero_le _⟩ dX7_share_25) (fun H locs hP hS => ?_)
    refine lv_if_ne (tgt := 34) hx hb dX7_share_28 (by decide) (fun c8 => ?_) (fun c8 => ?_)
    · have h := oc_f c8 h
      refine lv_iload_n hx hb dX7_share_34 rfl (lv_at hl 0 rfl) ?_
      obtain ⟨r10, hc9, h⟩ := oc_bind h
      refine kro_i (wc := (WD0 cI cC cZ)) C0 hP hD hS [] rfl (kS (n := 1) (As := [.int r5]) (rest := []) (wc := (WD0 cI cC cZ)) C0 hP hD hS [] rfl (by decide) (c_X7_ones l D cI cC cZ  H.size  r5 r10 hc9) kw_464 kw_462 kw_463 kw_5 (by decide +kernel) (by decide) rfl hl.1 rfl (Nat.le_of_ble_eq_true rfl) ⟨Nat.zero_le _, Nat.zero_le _⟩ dX7_share_35) (fun H locs hP hS => ?_)
      refine lv_istore (lv' := [(4, .int r10), (3, .int r5), (0, .ref a_M), (1, .int p1), (2, .int p2)]) hx hb dX7_share_38 hl (by decide) rfl (fun ls hl => ?_)
      refine lv_iconst (v := (0 : Int32)) hx hb dX7_share_40 (by decide) ?_
      refine lv_istore (lv' := [(5, .int (0 : Int32)), (4, .int r10), (3, .int r5), (0, .ref a_M), (1, .int p1), (2, .int p2)]) hx hb dX7_share_41 hl (by decide) rfl (fun ls hl => ?_)
      refine lv_iconst (v := (0 : Int32)) hx hb dX7_share_43 (by decide) ?_
      refine lv_istore (lv' := [(6, .int (0 : Int32)), (5, .int (0 : Int32)), (4, .int r10), (3, .int r5), (0, .ref a_M), (1, .int p1), (2, .int p2)]) hx hb dX7_share_44 hl (by decide) rfl (fun ls hl => ?_)
      exact wl_X7_share_46 C0  _ _ _ h _ _ hP hD hS _ (lv_sub hl [4, 5, 6, 3, 2, 1, 0] rfl)
    · have h := oc_t c8 h
      refine lv_bipush (v := (-3 : Int32)) hx hb dX7_share_31 (by decide) ?_
      cases h
      exact kret_i C0 hP hD hS rfl dX7_share_33
  · have h := oc_f c3 h
    refine lv_iconst (v := (-1 : Int32)) hx hb dX7_share_13 (by decide) ?_
    cases h
    exact kret_i C0 hP hD hS rfl dX7_share_14
abbrev rm_X7_chance : Room := { frames := 9, cells := 0, slots := 0, locals := 227 }
noncomputable def bk_X7_chance_105  (M_thrown : Int32) (p2 : Int32) (p4 : Int32) (p5 : Int32) : Option (Int32 × Int32) := (f_X7_power (10 : Int32) p4).bind (fun r2 => (f_X7_fraction p5 r2 p2).bind (fun r4 => some (r4, M_thrown)))
set_option maxHeartbeats 4000000 in
set_option maxRecDepth 100000 in
theorem wk_X7_chance_105 {p : Program} {l : Launch} {e : Env} {s : State} {m : MethodId} {args : Array Value} {below : List Frame} {meth : Method} {c : Code} {D : va_G} {cI cC cZ : ClassId} {A : Nat → Prop} {a_M a_M_text a_M_plan a_M_read a_M_readPage a_M_page a_M_trial a_M_book a_M_kept a_M_isKept a_M_seenPoint a_M_seenSum a_M_seenWas : Nat} {M_thrown : Int32} {M_textSize : Int32} {M_place : Int32} {M_doings : Int32} {M_seen : Int32} {M_seed : Int64} {M_bestSet : Int32} {M_text : Nat → Int32} {M_plan : Nat → Int32} {M_read : Nat → Int32} {M_readPage : Nat → Int32} {M_page : Nat → Int32} {M_trial : Nat → Int32} {M_book : Nat → Int32} {M_kept : Nat → Int32} {M_isKept : Nat → Int32} {M_seenPoint : Nat → Int32} {M_seenSum : Nat → Int32} {M_seenWas : Nat → Int32} {p2 : Int32} {p4 : Int32} {p5 : Int32}  {rr : Int32} {u_M_thrown : Int32} (C0 : kC p s m args meth c D (kTY cI cC cZ) cX7_chance (some .int) 7 RX7 A)  (h : bk_X7_chance_105  M_thrown p2 p4 p5 = some (rr, u_M_thrown)) {H : Heap} {locs : List Loc} (hP : va_P D vwCl (WD16 cI cC cZ a_M a_M_text a_M_plan a_M_read a_M_readPage a_M_page a_M_trial a_M_book a_M_kept a_M_isKept a_M_seenPoint a_M_seenSum a_M_seenWas M_thrown M_textSize M_place M_doings M_seen M_seed M_bestSet M_text M_plan M_read M_readPage M_page M_trial M_book M_kept M_isKept M_seenPoint M_seenSum M_seenWas) H) (hD : va_D A (WD16 cI cC cZ a_M a_M_text a_M_plan a_M_read a_M_readPage a_M_page a_M_trial a_M_book a_M_kept a_M_isKept a_M_seenPoint a_M_seenSum a_M_seenWas M_thrown M_textSize M_place M_doings M_seen M_seed M_bestSet M_text M_plan M_read M_readPage M_page M_trial M_book M_kept M_isKept M_seenPoint M_seenSum M_seenWas)) (hS : va_S A s.heap H locs) {ls : Array Slot} (hl : lv_has ls 7 [(2, .int p2), (4, .int p4), (5, .int p5)]) : W p l e rm_X7_chance s m args below meth c H locs 0 0 (MQ below (kQI D (kTY cI cC cZ) A rr (WD16 cI cC cZ a_M a_M_text a_M_plan a_M_read a_M_readPage a_M_page a_M_trial a_M_book a_M_kept a_M_isKept a_M_seenPoint a_M_seenSum a_M_seenWas u_M_thrown M_textSize M_place M_doings M_seen M_seed M_bestSet M_text M_plan M_read M_readPage M_page M_trial M_book M_kept M_isKept M_seenPoint M_seenSum M_seenWas)) args s 0 0 A) (F0 m 105 ls []) := by
  obtain ⟨hx, hb, hr, hml, hown, hts, hK, hN, hA, hlocks, hF⟩ := id C0
  unfold bk_X7_chance_105 at h
  refine lv_iload hx hb dX7_chance_105 (lv_at hl 2 rfl) ?_
  refine lv_bipush (v := (10 : Int32)) hx hb dX7_chance_107 (by decide) ?_
  refine lv_iload hx hb dX7_chance_109 (lv_at hl 1 rfl) ?_
  obtain ⟨r2, hc1, h⟩ := oc_bind h
  refine kro_i (wc := (WD0 cI cC cZ)) C0 hP hD hS [] rfl (kS (n := 2) (As := [.int (10 : Int32), .int p4]) (rest := [.int p5]) (wc := (WD0 cI cC cZ)) C0 hP hD hS [] rfl (by decide) (c_X7_power l D cI cC cZ  H.size  (10 : Int32) p4 r2 hc1) kw_757 kw_755 kw_756 kw_5 (by decide +kernel) (by decide) rfl hl.1 rfl (Nat.le_of_ble_eq_true rfl) ⟨Nat.zero_le _, Nat.zero_le _⟩ dX7_chance_111) (fun H locs hP hS => ?_)
  refine lv_iload_n hx hb dX7_chance_114 rfl (lv_at hl 0 rfl) ?_
  obtain ⟨r4, hc3, h⟩ := oc_bind h
  refine kro_i (wc := (WD0 cI cC cZ)) C0 hP hD hS [] rfl (kS (n := 3) (As := [.int p5, .int r2, .int p2]) (rest := []) (wc := (WD0 cI cC cZ)) C0 hP hD hS [] rfl (by decide) (c_X7_fraction l D cI cC cZ  H.size  p5 r2 p2 r4 hc3) kw_736 kw_734 kw_735 kw_5 (by decide +kernel) (by decide) rfl hl.1 rfl (Nat.le_of_ble_eq_true rfl) ⟨Nat.zero_le _, Nat.zero_le _⟩ dX7_chance_115) (fun H locs hP hS => ?_)
  cases h
  exact kret_i C0 hP hD hS rfl dX7_chance_118
noncomputable def bk_X7_chance_40 (k40 : Int32 → Int32 → Option (Int32 × Int32)) (M_thrown : Int32) (M_plan : Nat → Int32) (M_page : Nat → Int32) (p1 : Int32) (p2 : Int32) (p3 : Int32) (p4 : Int32) (p5 : Int32) (p6 : Int32) : Option (Int32 × Int32) := (f_X7_spots M_plan).bind (fun r2 => if ((1 : Int32) <<< (r2 &&& 31)) ≤ p6 then (bk_X7_chance_105  M_thrown p2 p4 p5) else (if (p6 &&& (p3 ^^^ (-1 : Int32))) = 0 then ((f_X7_serves M_plan M_page p6).bind (fun r7 => if r7 = 0 then (nm_ (p6 + (1 : Int32)) (fun t9 => k40 p5 t9)) else ((f_X7_ones p6).bind (fun r11 => (f_X7_power ((10 : Int32) - p1) r11).bind (fun r13 => (f_X7_ones p6).bind (fun r15 => (f_X7_power p1 (p4 - r15)).bind (fun r17 => nm_ (p5 + (r13 * r17)) (fun t18 => nm_ (p6 + (1 : Int32)) (fun t19 => k40 t18 t19))))))))) else (nm_ (p6 + (1 : Int32)) (fun t5 => k40 p5 t5))))
set_option maxHeartbeats 4000000 in
set_option maxRecDepth 100000 in
theorem wk_X7_chance_40 {p : Program} {l : Launch} {e : Env} {s : State} {m : MethodId} {args : Array Value} {below : List Frame} {meth : Method} {c : Code} {D : va_G} {cI cC cZ : ClassId} {A : Nat → Prop} {a_M a_M_text a_M_plan a_M_read a_M_readPage a_M_page a_M_trial a_M_book a_M_kept a_M_isKept a_M_seenPoint a_M_seenSum a_M_seenWas : Nat} {M_thrown : Int32} {M_textSize : Int32} {M_place : Int32} {M_doings : Int32} {M_seen : Int32} {M_seed : Int64} {M_bestSet : Int32} {M_text : Nat → Int32} {M_plan : Nat → Int32} {M_read : Nat → Int32} {M_readPage : Nat → Int32} {M_page : Nat → Int32} {M_trial : Nat → Int32} {M_book : Nat → Int32} {M_kept : Nat → Int32} {M_isKept : Nat → Int32} {M_seenPoint : Nat → Int32} {M_seenSum : Nat → Int32} {M_seenWas : Nat → Int32} {p1 : Int32} {p2 : Int32} {p3 : Int32} {p4 : Int32} {p5 : Int32} {p6 : Int32} {k40 : Int32 → Int32 → Option (Int32 × Int32)} {rr : Int32} {u_M_thrown : Int32} (C0 : kC p s m args meth c D (kTY cI cC cZ) cX7_chance (some .int) 7 RX7 A) (hk40 : ∀ (p5_k : Int32) (p6_k : Int32), k40 p5_k p6_k = some (rr, u_M_thrown) → ∀ (H : Heap) (locs : List Loc), va_P D vwCl (WD16 cI cC cZ a_M a_M_text a_M_plan a_M_read a_M_readPage a_M_page a_M_trial a_M_book a_M_kept a_M_isKept a_M_seenPoint a_M_seenSum a_M_seenWas M_thrown M_textSize M_place M_doings M_seen M_seed M_bestSet M_text M_plan M_read M_readPage M_page M_trial M_book M_kept M_isKept M_seenPoint M_seenSum M_seenWas) H → va_D A (WD16 cI cC cZ a_M a_M_text a_M_plan a_M_read a_M_readPage a_M_page a_M_trial a_M_book a_M_kept a_M_isKept a_M_seenPoint a_M_seenSum a_M_seenWas M_thrown M_textSize M_place M_doings M_seen M_seed M_bestSet M_text M_plan M_read M_readPage M_page M_trial M_book M_kept M_isKept M_seenPoint M_seenSum M_seenWas) → va_S A s.heap H locs → ∀ ls : Array Slot, lv_has ls 7 [(0, .ref a_M), (1, .int p1), (2, .int p2), (3, .int p3), (4, .int p4), (5, .int p5_k), (6, .int p6_k)] → W p l e rm_X7_chance s m args below meth c H locs 0 0 (MQ below (kQI D (kTY cI cC cZ) A rr (WD16 cI cC cZ a_M a_M_text a_M_plan a_M_read a_M_readPage a_M_page a_M_trial a_M_book a_M_kept a_M_isKept a_M_seenPoint a_M_seenSum a_M_seenWas u_M_thrown M_textSize M_place M_doings M_seen M_seed M_bestSet M_text M_plan M_read M_readPage M_page M_trial M_book M_kept M_isKept M_seenPoint M_seenSum M_seenWas)) args s 0 0 A) (F0 m 40 ls [])) (h : bk_X7_chance_40 k40 M_thrown M_plan M_page p1 p2 p3 p4 p5 p6 = some (rr, u_M_thrown)) {H : Heap} {locs : List Loc} (hP : va_P D vwCl (WD16 cI cC cZ a_M a_M_text a_M_plan a_M_read a_M_readPage a_M_page a_M_trial a_M_book a_M_kept a_M_isKept a_M_seenPoint a_M_seenSum a_M_seenWas M_thrown M_textSize M_place M_doings M_seen M_seed M_bestSet M_text M_plan M_read M_readPage M_page M_trial M_book M_kept M_isKept M_seenPoint M_seenSum M_seenWas) H) (hD : va_D A (WD16 cI cC cZ a_M a_M_text a_M_plan a_M_read a_M_readPage a_M_page a_M_trial a_M_book a_M_kept a_M_isKept a_M_seenPoint a_M_seenSum a_M_seenWas M_thrown M_textSize M_place M_doings M_seen M_seed M_bestSet M_text M_plan M_read M_readPage M_page M_trial M_book M_kept M_isKept M_seenPoint M_seenSum M_seenWas)) (hS : va_S A s.heap H locs) {ls : Array Slot} (hl : lv_has ls 7 [(0, .ref a_M), (1, .int p1), (2, .int p2), (3, .int p3), (4, .int p4), (5, .int p5), (6, .int p6)]) : W p l e rm_X7_chance s m args below meth c H locs 0 0 (MQ below (kQI D (kTY cI cC cZ) A rr (WD16 cI cC cZ a_M a_M_text a_M_plan a_M_read a_M_readPage a_M_page a_M_trial a_M_book a_M_kept a_M_isKept a_M_seenPoint a_M_seenSum a_M_seenWas u_M_thrown M_textSize M_place M_doings M_seen M_seed M_bestSet M_text M_plan M_read M_readPage M_page M_trial M_book M_kept M_isKept M_seenPoint M_seenSum M_seenWas)) args s 0 0 A) (F0 m 40 ls []) := by
  obtain ⟨hx, hb, hr, hml, hown, hts, hK, hN, hA, hlocks, hF⟩ := id C0
  unfold bk_X7_chance_40 at h
  refine lv_iload hx hb dX7_chance_40 (lv_at hl 6 rfl) ?_
  refine lv_iconst (v := (1 : Int32)) hx hb dX7_chance_42 (by decide) ?_
  refine lv_aload_n hx hb dX7_chance_43 rfl (lv_at hl 0 rfl) ?_
  obtain ⟨r2, hc1, h⟩ := oc_bind h
  refine kro_i (wc := (WD16 cI cC cZ a_M a_M_text a_M_plan a_M_read a_M_readPage a_M_page a_M_trial a_M_book a_M_kept a_M_isKept a_M_seenPoint a_M_seenSum a_M_seenWas M_thrown M_textSize M_place M_doings M_seen M_seed M_bestSet M_text M_plan M_read M_readPage M_page M_trial M_book M_kept M_isKept M_seenPoint M_seenSum M_seenWas)) C0 hP hD hS [0, 1, 2, 3, 4, 5, 6, 7, 8, 9, 10, 11, 12] rfl (kV (n := 0) (As := []) (rest := [.int (1 : Int32), .int p6]) (wc := (WD16 cI cC cZ a_M a_M_text a_M_plan a_M_read a_M_readPage a_M_page a_M_trial a_M_book a_M_kept a_M_isKept a_M_seenPoint a_M_seenSum a_M_seenWas M_thrown M_textSize M_place M_doings M_seen M_seed M_bestSet M_text M_plan M_read M_readPage M_page M_trial M_book M_kept M_isKept M_seenPoint M_seenSum M_seenWas)) (C := RX7) C0 hP hD hS [0, 1, 2, 3, 4, 5, 6, 7, 8, 9, 10, 11, 12] rfl (by decide) (c_X7_spots l D cI cC cZ a_M a_M_text a_M_plan a_M_read a_M_readPage a_M_page a_M_trial a_M_book a_M_kept a_M_isKept a_M_seenPoint a_M_seenSum a_M_seenWas H.size M_thrown M_textSize M_place M_doings M_seen M_seed M_bestSet M_text M_plan M_read M_readPage M_page M_trial M_book M_kept M_isKept M_seenPoint M_seenSum M_seenWas  r2 hc1) kw_280 kw_277 kw_278 kw_279 kw_5 (by decide +kernel) (by decide) rfl rfl rfl hl.1 rfl (Nat.le_of_ble_eq_true rfl) ⟨Nat.zero_le _, Nat.zero_le _⟩ dX7_chance_44) (fun H locs hP hS => ?_)
  refine lv_ishl hx hb dX7_chance_47 ?_
  refine lv_icmp_ge (tgt := 105) hx hb dX7_chance_48 (by decide) (fun c3 => ?_) (fun c3 => ?_)
  · have h := oc_t c3 h
    exact wk_X7_chance_105 C0  h hP hD hS (lv_sub hl [2, 4, 5] rfl)
  · have h := oc_f c3 h
    refine lv_iload hx hb dX7_chance_51 (lv_at hl 6 rfl) ?_
    refine lv_iload_n hx hb dX7_chance_53 rfl (lv_at hl 3 rfl) ?_
    refine lv_iconst (v := (-1 : Int32)) hx hb dX7_chance_54 (by decide) ?_
    refine lv_ixor hx hb dX7_chance_55 ?_
    refine lv_iand hx hb dX7_chance_56 ?_
    refine lv_if_ne (tgt := 99) hx hb dX7_chance_57 (by decide) (fun c4 => ?_) (fun c4 => ?_)
    · have h := oc_f c4 h
      obtain ⟨t5, e_t5⟩ : ∃ y : Int32, y = p6 + (1 : Int32) := ⟨_, rfl⟩
      have h := oc_nm e_t5 h
      refine lv_iinc (v := t5) (lv' := [(6, .int t5), (0, .ref a_M), (1, .int p1), (2, .int p2), (3, .int p3), (4, .int p4), (5, .int p5)]) hx hb dX7_chance_99 hl (k := 6) rfl (by rw [e_t5]; rfl) (by decide) rfl (fun ls hl => ?_)
      refine lv_goto (tgt := 40) hx hb dX7_chance_102 (by decide) ?_
      exact hk40 _ _ h _ _ hP hD hS _ (lv_sub hl [1, 2, 3, 4, 5, 6, 0] rfl)
    · have h := oc_t c4 h
      refine lv_aload_n hx hb dX7_chance_60 rfl (lv_at hl 0 rfl) ?_
      refine lv_iload hx hb dX7_chance_61 (lv_at hl 6 rfl) ?_
      obtain ⟨r7, hc6, h⟩ := oc_bind h
      refine kro_i (wc := (WD16 cI cC cZ a_M a_M_text a_M_plan a_M_read a_M_readPage a_M_page a_M_trial a_M_book a_M_kept a_M_isKept a_M_seenPoint a_M_seenSum a_M_seenWas M_thrown M_textSize M_place M_doings M_seen M_seed M_bestSet M_text M_plan M_read M_readPage M_page M_trial M_book M_kept M_isKept M_seenPoint M_seenSum M_seenWas)) C0 hP hD hS [0, 1, 2, 3, 4, 5, 6, 7, 8, 9, 10, 11, 12] rfl (kV (n := 1) (As := [.int p6]) (rest := []) (wc := (WD16 cI cC cZ a_M a_M_text a_M_plan a_M_read a_M_readPage a_M_page a_M_trial a_M_book a_M_kept a_M_isKept a_M_seenPoint a_M_seenSum a_M_seenWas M_thrown M_textSize M_place M_doings M_seen M_seed M_bestSet M_text M_plan M_read M_readPage M_page M_trial M_book M_kept M_isKept M_seenPoint M_seenSum M_seenWas)) (C := RX7) C0 hP hD hS [0, 1, 2, 3, 4, 5, 6, 7, 8, 9, 10, 11, 12] rfl (by decide) (c_X7_serves l D cI cC cZ a_M a_M_text a_M_plan a_M_read a_M_readPage a_M_page a_M_trial a_M_book a_M_kept a_M_isKept a_M_seenPoint a_M_seenSum a_M_seenWas H.size M_thrown M_textSize M_place M_doings M_seen M_seed M_bestSet M_text M_plan M_read M_readPage M_page M_trial M_book M_kept M_isKept M_seenPoint M_seenSum M_seenWas p6 r7 hc6) kw_549 kw_546 kw_547 kw_548 kw_5 (by decide +kernel) (by decide) rfl rfl rfl hl.1 rfl (Nat.le_of_ble_eq_true rfl) ⟨Nat.zero_le _, Nat.zero_le _⟩ dX7_chance_63) (fun H locs hP hS => ?_)
      refine lv_if_eq (tgt := 99) hx hb dX7_chance_66 (by decide) (fun c8 => ?_) (fun c8 => ?_)
      · have h := oc_t c8 h
        obtain ⟨t9, e_t9⟩ : ∃ y : Int32, y = p6 + (1 : Int32) := ⟨_, rfl⟩
        have h := oc_nm e_t9 h
        refine lv_iinc (v := t9) (lv' := [(6, .int t9), (0, .ref a_M), (1, .int p1), (2, .int p2), (3, .int p3), (4, .int p4), (5, .int p5)]) hx hb dX7_chance_99 hl (k := 6) rfl (by rw [e_t9]; rfl) (by decide) rfl (fun ls hl => ?_)
        refine lv_goto (tgt := 40) hx hb dX7_chance_102 (by decide) ?_
        exact hk40 _ _ h _ _ hP hD hS _ (lv_sub hl [1, 2, 3, 4, 5, 6, 0] rfl)
      · have h := oc_f c8 h
        refine lv_iload hx hb dX7_chance_69 (lv_at hl 5 rfl) ?_
        refine lv_bipush (v := (10 : Int32)) hx hb dX7_chance_71 (by decide) ?_
        refine lv_iload_n hx hb dX7_chance_73 rfl (lv_at hl 1 rfl) ?_
        refine lv_isub hx hb dX7_chance_74 ?_
        refine lv_iload hx hb dX7_chance_75 (lv_at hl 6 rfl) ?_
        obtain ⟨r11, hc10, h⟩ := oc_bind h
        refine kro_i (wc := (WD0 cI cC cZ)) C0 hP hD hS [] rfl (kS (n := 1) (As := [.int p6]) (rest := [.int ((10 : Int32) - p1), .int p5]) (wc := (WD0 cI cC cZ)) C0 hP hD hS [] rfl (by decide) (c_X7_ones l D cI cC cZ  H.size  p6 r11 hc10) kw_464 kw_462 kw_463 kw_5 (by decide +kernel) (by decide) rfl hl.1 rfl (Nat.le_of_ble_eq_true rfl) ⟨Nat.zero_le _, Nat.zero_le _⟩ dX7_chance_77) (fun H locs hP hS => ?_)
        obtain ⟨r13, hc12, h⟩ := oc_bind h
        refine kro_i (wc := (WD0 cI cC cZ)) C0 hP hD hS [] rfl (kS (n := 2) (As := [.int ((10 : Int32) - p1), .int r11]) (rest := [.int p5]) (wc := (WD0 cI cC cZ)) C0 hP hD hS [] rfl (by decide) (c_X7_power l D cI cC cZ  H.size  ((10 : Int32) - p1) r11 r13 hc12) kw_757 kw_755 kw_756 kw_5 (by decide +kernel) (by decide) rfl hl.1 rfl (Nat.le_of_ble_eq_true rfl) ⟨Nat.zero_le _, Nat.zero_le _⟩ dX7_chance_80) (fun H locs hP hS => ?_)
        refine lv_iload_n hx hb dX7_chance_83 rfl (lv_at hl 1 rfl) ?_
        refine lv_iload hx hb dX7_chance_84 (lv_at hl 4 rfl) ?_
        refine lv_iload hx hb dX7_chance_86 (lv_at hl 6 rfl) ?_
        obtain ⟨r15, hc14, h⟩ := oc_bind h
        refine kro_i (wc := (WD0 cI cC cZ)) C0 hP hD hS [] rfl (kS (n := 1) (As := [.int p6]) (rest := [.int p4, .int p1, .int r13, .int p5]) (wc := (WD0 cI cC cZ)) C0 hP hD hS [] rfl (by decide) (c_X7_ones l D cI cC cZ  H.size  p6 r15 hc14) kw_464 kw_462 kw_463 kw_5 (by decide +kernel) (by decide) rfl hl.1 rfl (Nat.le_of_ble_eq_true rfl) ⟨Nat.zero_le _, Nat.zero_le _⟩ dX7_chance_88) (fun H locs hP hS => ?_)
        refine lv_isub hx hb dX7_chance_91 ?_
        obtain ⟨r17, hc16, h⟩ := oc_bind h
        refine kro_i (wc := (WD0 cI cC cZ)) C0 hP hD hS [] rfl (kS (n := 2) (As := [.int p1, .int (p4 - r15)]) (rest := [.int r13, .int p5]) (wc := (WD0 cI cC cZ)) C0 hP hD hS [] rfl (by decide) (c_X7_power l D cI cC cZ  H.size  p1 (p4 - r15) r17 hc16) kw_757 kw_755 kw_756 kw_5 (by decide +kernel) (by decide) rfl hl.1 rfl (Nat.le_of_ble_eq_true rfl) ⟨Nat.zero_le _, Nat.zero_le _⟩ dX7_chance_92) (fun H locs hP hS => ?_)
        refine lv_imul hx hb dX7_chance_95 ?_
        refine lv_iadd hx hb dX7_chance_96 ?_
        refine lv_topi (fun t18 e_t18 => ?_)
        have h := oc_nm e_t18 h
        refine lv_istore (lv' := [(5, .int t18), (0, .ref a_M), (1, .int p1), (2, .int p2), (3, .int p3), (4, .int p4), (6, .int p6)]) hx hb dX7_chance_97 hl (by decide) rfl (fun ls hl => ?_)
        obtain ⟨t19, e_t19⟩ : ∃ y : Int32, y = p6 + (1 : Int32) := ⟨_, rfl⟩
        have h := oc_nm e_t19 h
        refine lv_iinc (v := t19) (lv' := [(6, .int t19), (5, .int t18), (0, .ref a_M), (1, .int p1), (2, .int p2), (3, .int p3), (4, .int p4)]) hx hb dX7_chance_99 hl (k := 6) rfl (by rw [e_t19]; rfl) (by decide) rfl (fun ls hl => ?_)
        refine lv_goto (tgt := 40) hx hb dX7_chance_102 (by decide) ?_
        exact hk40 _ _ h _ _ hP hD hS _ (lv_sub hl [2, 3, 4, 5, 6, 1, 0] rfl)
noncomputable def lp_X7_chance_40  (M_thrown : Int32) (M_plan : Nat → Int32) (M_page : Nat → Int32) (p1 : Int32) (p2 : Int32) (p3 : Int32) (p4 : Int32) (n : Nat) : Int32 → Int32 → Option (Int32 × Int32) := Nat.rec (motive := fun _ => Int32 → Int32 → Option (Int32 × Int32)) (fun _ _ => none) (fun _ ih => bk_X7_chance_40  ih M_thrown M_plan M_page p1 p2 p3 p4) n
set_option maxHeartbeats 4000000 in
set_option maxRecDepth 100000 in
theorem wl_X7_chance_40 {p : Program} {l : Launch} {e : Env} {s : State} {m : MethodId} {args : Array Value} {below : List Frame} {meth : Method} {c : Code} {D : va_G} {cI cC cZ : ClassId} {A : Nat → Prop} {a_M a_M_text a_M_plan a_M_read a_M_readPage a_M_page a_M_trial a_M_book a_M_kept a_M_isKept a_M_seenPoint a_M_seenSum a_M_seenWas : Nat} {M_thrown : Int32} {M_textSize : Int32} {M_place : Int32} {M_doings : Int32} {M_seen : Int32} {M_seed : Int64} {M_bestSet : Int32} {M_text : Nat → Int32} {M_plan : Nat → Int32} {M_read : Nat → Int32} {M_readPage : Nat → Int32} {M_page : Nat → Int32} {M_trial : Nat → Int32} {M_book : Nat → Int32} {M_kept : Nat → Int32} {M_isKept : Nat → Int32} {M_seenPoint : Nat → Int32} {M_seenSum : Nat → Int32} {M_seenWas : Nat → Int32} {p1 : Int32} {p2 : Int32} {p3 : Int32} {p4 : Int32}  {rr : Int32} {u_M_thrown : Int32} (C0 : kC p s m args meth c D (kTY cI cC cZ) cX7_chance (some .int) 7 RX7 A)  : ∀ (n : Nat) (p5 : Int32) (p6 : Int32), lp_X7_chance_40  M_thrown M_plan M_page p1 p2 p3 p4 n p5 p6 = some (rr, u_M_thrown) → ∀ (H : Heap) (locs : List Loc), va_P D vwCl (WD16 cI cC cZ a_M a_M_text a_M_plan a_M_read a_M_readPage a_M_page a_M_trial a_M_book a_M_kept a_M_isKept a_M_seenPoint a_M_seenSum a_M_seenWas M_thrown M_textSize M_place M_doings M_seen M_seed M_bestSet M_text M_plan M_read M_readPage M_page M_trial M_book M_kept M_isKept M_seenPoint M_seenSum M_seenWas) H → va_D A (WD16 cI cC cZ a_M a_M_text a_M_plan a_M_read a_M_readPage a_M_page a_M_trial a_M_book a_M_kept a_M_isKept a_M_seenPoint a_M_seenSum a_M_seenWas M_thrown M_textSize M_place M_doings M_seen M_seed M_bestSet M_text M_plan M_read M_readPage M_page M_trial M_book M_kept M_isKept M_seenPoint M_seenSum M_seenWas) → va_S A s.heap H locs → ∀ ls : Array Slot, lv_has ls 7 [(0, .ref a_M), (1, .int p1), (2, .int p2), (3, .int p3), (4, .int p4), (5, .int p5), (6, .int p6)] → W p l e rm_X7_chance s m args below meth c H locs 0 0 (MQ below (kQI D (kTY cI cC cZ) A rr (WD16 cI cC cZ a_M a_M_text a_M_plan a_M_read a_M_readPage a_M_page a_M_trial a_M_book a_M_kept a_M_isKept a_M_seenPoint a_M_seenSum a_M_seenWas u_M_thrown M_textSize M_place M_doings M_seen M_seed M_bestSet M_text M_plan M_read M_readPage M_page M_trial M_book M_kept M_isKept M_seenPoint M_seenSum M_seenWas)) args s 0 0 A) (F0 m 40 ls []) := by
  intro n
  induction n with
  | zero => intro p5 p6 h; cases (show (none : Option (Int32 × Int32)) = some _ from h)
  | succ n ih =>
    intro p5 p6 h H locs hP hD hS ls hl
    exact wk_X7_chance_40 C0  (fun p5 p6 h H locs hP hD hS ls hl => ih p5 p6 h H locs hP hD hS ls hl) (show bk_X7_chance_40  (lp_X7_chance_40  M_thrown M_plan M_page p1 p2 p3 p4 n) M_thrown M_plan M_page p1 p2 p3 p4 p5 p6 = some _ from h) hP hD hS hl
noncomputable def f_X7_chance (M_thrown : Int32) (M_plan : Nat → Int32) (M_page : Nat → Int32) (p1 : Int32) (p2 : Int32) : Option (Int32 × Int32) := (f_X7_in (Int32.toInt64 p1) (0 : Int64) (10 : Int64)).bind (fun r2 => if r2 = 0 then (some ((-2 : Int32), (0 : Int32))) else ((f_X7_live M_page).bind (fun r5 => (f_X7_ones r5).bind (fun r7 => lp_X7_chance_40  (0 : Int32) M_plan M_page p1 p2 r5 r7 1000 (0 : Int32) (0 : Int32)))))
set_option maxHeartbeats 4000000 in
set_option maxRecDepth 100000 in
theorem c_X7_chance (l : Launch) (D : va_G) (cI cC cZ : ClassId) (a_M a_M_text a_M_plan a_M_read a_M_readPage a_M_page a_M_trial a_M_book a_M_kept a_M_isKept a_M_seenPoint a_M_seenSum a_M_seenWas : Nat) (sz : Nat) (M_thrown : Int32) (M_textSize : Int32) (M_place : Int32) (M_doings : Int32) (M_seen : Int32) (M_seed : Int64) (M_bestSet : Int32) (M_text : Nat → Int32) (M_plan : Nat → Int32) (M_read : Nat → Int32) (M_readPage : Nat → Int32) (M_page : Nat → Int32) (M_trial : Nat → Int32) (M_book : Nat → Int32) (M_kept : Nat → Int32) (M_isKept : Nat → Int32) (M_seenPoint : Nat → Int32) (M_seenSum : Nat → Int32) (M_seenWas : Nat → Int32) (p1 : Int32) (p2 : Int32) (rr : Int32) (u_M_thrown : Int32) (hf : f_X7_chance M_thrown M_plan M_page p1 p2 = some (rr, u_M_thrown)) : kMet l yX7_chance cX7_chance 7 (some .int) rm_X7_chance D (kTY cI cC cZ) [.ref a_M, .int p1, .int p2] (WD16 cI cC cZ a_M a_M_text a_M_plan a_M_read a_M_readPage a_M_page a_M_trial a_M_book a_M_kept a_M_isKept a_M_seenPoint a_M_seenSum a_M_seenWas M_thrown M_textSize M_place M_doings M_seen M_seed M_bestSet M_text M_plan M_read M_readPage M_page M_trial M_book M_kept M_isKept M_seenPoint M_seenSum M_seenWas) sz (kQI D (kTY cI cC cZ) (va_A (WD16 cI cC cZ a_M a_M_text a_M_plan a_M_read a_M_readPage a_M_page a_M_trial a_M_book a_M_kept a_M_isKept a_M_seenPoint a_M_seenSum a_M_seenWas M_thrown M_textSize M_place M_doings M_seen M_seed M_bestSet M_text M_plan M_read M_readPage M_page M_trial M_book M_kept M_isKept M_seenPoint M_seenSum M_seenWas) sz) rr (WD16 cI cC cZ a_M a_M_text a_M_plan a_M_read a_M_readPage a_M_page a_M_trial a_M_book a_M_kept a_M_isKept a_M_seenPoint a_M_seenSum a_M_seenWas u_M_thrown M_textSize M_place M_doings M_seen M_seed M_bestSet M_text M_plan M_read M_readPage M_page M_trial M_book M_kept M_isKept M_seenPoint M_seenSum M_seenWas)) := by
  refine kEnter (lv := [(0, .ref a_M), (1, .int p1), (2, .int p2)]) (own := RX7) (by decide) rfl (Nat.le_of_ble_eq_true rfl) rfl ?_
  intro p e s m below meth c hsz C0 hP hD hS ls hl
  generalize (va_A (WD16 cI cC cZ a_M a_M_text a_M_plan a_M_read a_M_readPage a_M_page a_M_trial a_M_book a_M_kept a_M_isKept a_M_seenPoint a_M_seenSum a_M_seenWas M_thrown M_textSize M_place M_doings M_seen M_seed M_bestSet M_text M_plan M_read M_readPage M_page M_trial M_book M_kept M_isKept M_seenPoint M_seenSum M_seenWas) sz) = A at C0 hD hS ⊢
  clear hsz hS
  obtain ⟨H, hHs⟩ : ∃ H : Heap, H = s.heap := ⟨_, rfl⟩
  have hS : va_S A s.heap H [] := by rw [hHs]; exact va_S.rf
  rw [← hHs] at hP ⊢
  obtain ⟨hx, hb, hr, hml, hown, hts, hK, hN, hA, hlocks, hF⟩ := id C0
  have h := hf
  unfold f_X7_chance at h
  refine lv_aload_n hx hb dX7_chance_0 rfl (lv_at hl 0 rfl) ?_
  refine lv_iconst (v := (0 : Int32)) hx hb dX7_chance_1 (by decide) ?_
  refine va_put (D := D) (ci := 7) (v := .int (0 : Int32)) (ty := .int) (C := RX7) (T := TX7) (N := 19) hx hb hts inlX7 tyX7 tyX7_ok nmX7 hown hK hP hD hS 0 rfl rfl 0 (by decide) (hts _ kw_109) (fun _ h9 => h9) rfl (by decide +kernel) rfl rfl (Nat.le_of_ble_eq_true rfl) dX7_chance_2 (fun H locs hP hD hS => ?_)
  have hP : va_P D vwCl (WD16 cI cC cZ a_M a_M_text a_M_plan a_M_read a_M_readPage a_M_page a_M_trial a_M_book a_M_kept a_M_isKept a_M_seenPoint a_M_seenSum a_M_seenWas (0 : Int32) M_textSize M_place M_doings M_seen M_seed M_bestSet M_text M_plan M_read M_readPage M_page M_trial M_book M_kept M_isKept M_seenPoint M_seenSum M_seenWas) H := hP
  have hD : va_D A (WD16 cI cC cZ a_M a_M_text a_M_plan a_M_read a_M_readPage a_M_page a_M_trial a_M_book a_M_kept a_M_isKept a_M_seenPoint a_M_seenSum a_M_seenWas (0 : Int32) M_textSize M_place M_doings M_seen M_seed M_bestSet M_text M_plan M_read M_readPage M_page M_trial M_book M_kept M_isKept M_seenPoint M_seenSum M_seenWas) := hD
  refine lv_iload_n hx hb dX7_chance_5 rfl (lv_at hl 1 rfl) ?_
  refine lv_i2l hx hb dX7_chance_6 rfl ?_
  refine lv_lconst (v := (0 : Int64)) hx hb dX7_chance_7 (by decide) ?_
  refine lv_ldc2 (v := (10 : Int64)) hx hb hown (hts _ kw_754) dX7_chance_8 ?_
  obtain ⟨r2, hc1, h⟩ := oc_bind h
  refine kro_i (wc := (WD0 cI cC cZ)) C0 hP hD hS [] rfl (kS (n := 3) (As := [.long (Int32.toInt64 p1), .long (0 : Int64), .long (10 : Int64)]) (rest := []) (wc := (WD0 cI cC cZ)) C0 hP hD hS [] rfl (by decide) (c_X7_in l D cI cC cZ  H.size  (Int32.toInt64 p1) (0 : Int64) (10 : Int64) r2 hc1) kw_114 kw_112 kw_113 kw_5 (by decide +kernel) (by decide) rfl hl.1 rfl (Nat.le_of_ble_eq_true rfl) ⟨Nat.zero_le _, Nat.zero_le _⟩ dX7_chance_11) (fun H locs hP hS => ?_)
  refine lv_if_ne (tgt := 20) hx hb dX7_chance_14 (by decide) (fun c3 => ?_) (fun c3 => ?_)
  · have h := oc_f c3 h
    refine lv_aload_n hx hb dX7_chance_20 rfl (lv_at hl 0 rfl) ?_
    refine va_get (D := D) (ci := 7) (v := .ref a_M_page) (C := RX7) (T := TX7) (N := 19) hx hb hts inlX7 hown hK hP 0 rfl rfl 7 (by decide) (hts _ kw_88) (fun _ h9 => h9) rfl dX7_chance_21 ?_
    obtain ⟨r5, hc4, h⟩ := oc_bind h
    refine kro_i (wc := (WD17 cI cC cZ a_M_page M_page)) C0 hP hD hS [5] rfl (kS (n := 1) (As := [.ref a_M_page]) (rest := []) (wc := (WD17 cI cC cZ a_M_page M_page)) C0 hP hD hS [5] rfl (by decide) (c_X7_live l D cI cC cZ a_M_page H.size M_page  r5 hc4) kw_364 kw_362 kw_363 kw_5 (by decide +kernel) (by decide) rfl hl.1 rfl (Nat.le_of_ble_eq_true rfl) ⟨Nat.zero_le _, Nat.zero_le _⟩ dX7_chance_24) (fun H locs hP hS => ?_)
    refine lv_istore_n (lv' := [(3, .int r5), (0, .ref a_M), (1, .int p1), (2, .int p2)]) hx hb dX7_chance_27 rfl hl (by decide) rfl (fun ls hl => ?_)
    refine lv_iload_n hx hb dX7_chance_28 rfl (lv_at hl 0 rfl) ?_
    obtain ⟨r7, hc6, h⟩ := oc_bind h
    refine kro_i (wc := (WD0 cI cC cZ)) C0 hP hD hS [] rfl (kS (n := 1) (As := [.int r5]) (rest := []) (wc := (WD0 cI cC cZ)) C0 hP hD hS [] rfl (by decide) (c_X7_ones l D cI cC cZ  H.size  r5 r7 hc6) kw_464 kw_462 kw_463 kw_5 (by decide +kernel) (by decide) rfl hl.1 rfl (Nat.le_of_ble_eq_true rfl) ⟨Nat.zero_le _, Nat.zero_le _⟩ dX7_chance_29) (fun H locs hP hS => ?_)
    refine lv_istore (lv' := [(4, .int r7), (3, .int r5), (0, .ref a_M), (1, .int p1), (2, .int p2)]) hx hb dX7_chance_32 hl (by decide) rfl (fun ls hl => ?_)
    refine lv_iconst (v := (0 : Int32)) hx hb dX7_chance_34 (by decide) ?_
    refine lv_istore (lv' := [(5, .int (0 : Int32)), (4, .int r7), (3, .int r5), (0, .ref a_M), (1, .int p1), (2, .int p2)]) hx hb dX7_chance_35 hl (by decide) rfl (fun ls hl => ?_)
    refine lv_iconst (v := (0 : Int32)) hx hb dX7_chance_37 (by decide) ?_
    refine lv_istore (lv' := [(6, .int (0 : Int32)), (5, .int (0 : Int32)), (4, .int r7), (3, .int r5), (0, .ref a_M), (1, .int p1), (2, .int p2)]) hx hb dX7_chance_38 hl (by decide) rfl (fun ls hl => ?_)
    exact wl_X7_chance_40 C0  _ _ _ h _ _ hP hD hS _ (lv_sub hl [4, 5, 6, 3, 2, 1, 0] rfl)
  · have h := oc_t c3 h
    refine lv_bipush (v := (-2 : Int32)) hx hb dX7_chance_17 (by decide) ?_
    cases h
    exact kret_i C0 hP hD hS rfl dX7_chance_19
abbrev rm_X7_seed : Room := { frames := 0, cells := 0, slots := 0, locals := 0 }
noncomputable def f_X7_seed (M_thrown : Int32) (M_seed : Int64) (p1 : Int64) : Option (Int64 × Int32 × Int64) := some (M_seed, (0 : Int32), p1)
set_option maxHeartbeats 4000000 in
set_option maxRecDepth 100000 in
theorem c_X7_seed (l : Launch) (D : va_G) (cI cC cZ : ClassId) (a_M a_M_text a_M_plan a_M_read a_M_readPage a_M_page a_M_trial a_M_book a_M_kept a_M_isKept a_M_seenPoint a_M_seenSum a_M_seenWas : Nat) (sz : Nat) (M_thrown : Int32) (M_textSize : Int32) (M_place : Int32) (M_doings : Int32) (M_seen : Int32) (M_seed : Int64) (M_bestSet : Int32) (M_text : Nat → Int32) (M_plan : Nat → Int32) (M_read : Nat → Int32) (M_readPage : Nat → Int32) (M_page : Nat → Int32) (M_trial : Nat → Int32) (M_book : Nat → Int32) (M_kept : Nat → Int32) (M_isKept : Nat → Int32) (M_seenPoint : Nat → Int32) (M_seenSum : Nat → Int32) (M_seenWas : Nat → Int32) (p1 : Int64) (rr : Int64) (u_M_thrown : Int32) (u_M_seed : Int64) (hf : f_X7_seed M_thrown M_seed p1 = some (rr, u_M_thrown, u_M_seed)) : kMet l yX7_seed cX7_seed 5 (some .long) rm_X7_seed D (kTY cI cC cZ) [.ref a_M, .long p1] (WD16 cI cC cZ a_M a_M_text a_M_plan a_M_read a_M_readPage a_M_page a_M_trial a_M_book a_M_kept a_M_isKept a_M_seenPoint a_M_seenSum a_M_seenWas M_thrown M_textSize M_place M_doings M_seen M_seed M_bestSet M_text M_plan M_read M_readPage M_page M_trial M_book M_kept M_isKept M_seenPoint M_seenSum M_seenWas) sz (kQL D (kTY cI cC cZ) (va_A (WD16 cI cC cZ a_M a_M_text a_M_plan a_M_read a_M_readPage a_M_page a_M_trial a_M_book a_M_kept a_M_isKept a_M_seenPoint a_M_seenSum a_M_seenWas M_thrown M_textSize M_place M_doings M_seen M_seed M_bestSet M_text M_plan M_read M_readPage M_page M_trial M_book M_kept M_isKept M_seenPoint M_seenSum M_seenWas) sz) rr (WD16 cI cC cZ a_M a_M_text a_M_plan a_M_read a_M_readPage a_M_page a_M_trial a_M_book a_M_kept a_M_isKept a_M_seenPoint a_M_seenSum a_M_seenWas u_M_thrown M_textSize M_place M_doings M_seen u_M_seed M_bestSet M_text M_plan M_read M_readPage M_page M_trial M_book M_kept M_isKept M_seenPoint M_seenSum M_seenWas)) := by
  refine kEnter (lv := [(0, .ref a_M), (1, .long p1)]) (own := RX7) (by decide) rfl (Nat.le_of_ble_eq_true rfl) rfl ?_
  intro p e s m below meth c hsz C0 hP hD hS ls hl
  generalize (va_A (WD16 cI cC cZ a_M a_M_text a_M_plan a_M_read a_M_readPage a_M_page a_M_trial a_M_book a_M_kept a_M_isKept a_M_seenPoint a_M_seenSum a_M_seenWas M_thrown M_textSize M_place M_doings M_seen M_seed M_bestSet M_text M_plan M_read M_readPage M_page M_trial M_book M_kept M_isKept M_seenPoint M_seenSum M_seenWas) sz) = A at C0 hD hS ⊢
  clear hsz hS
  obtain ⟨H, hHs⟩ : ∃ H : Heap, H = s.heap := ⟨_, rfl⟩
  have hS : va_S A s.heap H [] := by rw [hHs]; exact va_S.rf
  rw [← hHs] at hP ⊢
  obtain ⟨hx, hb, hr, hml, hown, hts, hK, hN, hA, hlocks, hF⟩ := id C0
  have h := hf
  unfold f_X7_seed at h
  refine lv_aload_n hx hb dX7_seed_0 rfl (lv_at hl 0 rfl) ?_
  refine lv_iconst (v := (0 : Int32)) hx hb dX7_seed_1 (by decide) ?_
  refine va_put (D := D) (ci := 7) (v := .int (0 : Int32)) (ty := .int) (C := RX7) (T := TX7) (N := 19) hx hb hts inlX7 tyX7 tyX7_ok nmX7 hown hK hP hD hS 0 rfl rfl 0 (by decide) (hts _ kw_109) (fun _ h9 => h9) rfl (by decide +kernel) rfl rfl (Nat.le_of_ble_eq_true rfl) dX7_seed_2 (fun H locs hP hD hS => ?_)
  have hP : va_P D vwCl (WD16 cI cC cZ a_M a_M_text a_M_plan a_M_read a_M_readPage a_M_page a_M_trial a_M_book a_M_kept a_M_isKept a_M_seenPoint a_M_seenSum a_M_seenWas (0 : Int32) M_textSize M_place M_doings M_seen M_seed M_bestSet M_text M_plan M_read M_readPage M_page M_trial M_book M_kept M_isKept M_seenPoint M_seenSum M_seenWas) H := hP
  have hD : va_D A (WD16 cI cC cZ a_M a_M_text a_M_plan a_M_read a_M_readPage a_M_page a_M_trial a_M_book a_M_kept a_M_isKept a_M_seenPoint a_M_seenSum a_M_seenWas (0 : Int32) M_textSize M_place M_doings M_seen M_seed M_bestSet M_text M_plan M_read M_readPage M_page M_trial M_book M_kept M_isKept M_seenPoint M_seenSum M_seenWas) := hD
  refine lv_aload_n hx hb dX7_seed_5 rfl (lv_at hl 0 rfl) ?_
  refine va_get (D := D) (ci := 7) (v := .long M_seed) (C := RX7) (T := TX7) (N := 19) hx hb hts inlX7 hown hK hP 0 rfl rfl 17 (by decide) (hts _ kw_767) (fun _ h9 => h9) rfl dX7_seed_6 ?_
  refine lv_lstore_n (lv' := [(3, .long M_seed), (0, .ref a_M), (1, .long p1)]) hx hb dX7_seed_9 rfl hl (by decide) rfl (fun ls hl => ?_)
  refine lv_aload_n hx hb dX7_seed_10 rfl (lv_at hl 1 rfl) ?_
  refine lv_lload_n hx hb dX7_seed_11 rfl (lv_at hl 2 rfl) ?_
  refine va_put (D := D) (ci := 7) (v := .long p1) (ty := .long) (C := RX7) (T := TX7) (N := 19) hx hb hts inlX7 tyX7 tyX7_ok nmX7 hown hK hP hD hS 0 rfl rfl 17 (by decide) (hts _ kw_767) (fun _ h9 => h9) rfl (by decide +kernel) rfl rfl (Nat.le_of_ble_eq_true rfl) dX7_seed_12 (fun H locs hP hD hS => ?_)
  have hP : va_P D vwCl (WD16 cI cC cZ a_M a_M_text a_M_plan a_M_read a_M_readPage a_M_page a_M_trial a_M_book a_M_kept a_M_isKept a_M_seenPoint a_M_seenSum a_M_seenWas (0 : Int32) M_textSize M_place M_doings M_seen p1 M_bestSet M_text M_plan M_read M_readPage M_page M_trial M_book M_kept M_isKept M_seenPoint M_seenSum M_seenWas) H := hP
  have hD : va_D A (WD16 cI cC cZ a_M a_M_text a_M_plan a_M_read a_M_readPage a_M_page a_M_trial a_M_book a_M_kept a_M_isKept a_M_seenPoint a_M_seenSum a_M_seenWas (0 : Int32) M_textSize M_place M_doings M_seen p1 M_bestSet M_text M_plan M_read M_readPage M_page M_trial M_book M_kept M_isKept M_seenPoint M_seenSum M_seenWas) := hD
  refine lv_lload_n hx hb dX7_seed_15 rfl (lv_at hl 0 rfl) ?_
  cases h
  exact kret_l C0 hP hD hS dX7_seed_16
abbrev rm_X7_drawn : Room := { frames := 8, cells := 0, slots := 0, locals := 206 }
noncomputable def bk_X7_drawn_103 (k24 : Int64 → (Nat → Int32) → Int32 → Int32 → Option (Int32 × Int32 × Int64 × (Nat → Int32))) (M_thrown : Int32) (M_seed : Int64) (M_plan : Nat → Int32) (M_page : Nat → Int32) (M_trial : Nat → Int32) (p1 : Int32) (p2 : Int32) (p3 : Int32) : Option (Int32 × Int32 × Int64 × (Nat → Int32)) := (f_X7_live M_trial).bind (fun r2 => (f_X7_servedBy_trial M_plan M_trial r2 (M_trial (Int32.toNatClampNeg (2 : Int32)))).bind (fun r4 => (f_X7_ones r4).bind (fun r6 => nm_ (p2 + r6) (fun t7 => nm_ (p3 + (1 : Int32)) (fun t8 => k24 M_seed M_trial t7 t8)))))
set_option maxHeartbeats 4000000 in
set_option maxRecDepth 100000 in
theorem wk_X7_drawn_103 {p : Program} {l : Launch} {e : Env} {s : State} {m : MethodId} {args : Array Value} {below : List Frame} {meth : Method} {c : Code} {D : va_G} {cI cC cZ : ClassId} {A : Nat → Prop} {a_M a_M_text a_M_plan a_M_read a_M_readPage a_M_page a_M_trial a_M_book a_M_kept a_M_isKept a_M_seenPoint a_M_seenSum a_M_seenWas : Nat} {M_thrown : Int32} {M_textSize : Int32} {M_place : Int32} {M_doings : Int32} {M_seen : Int32} {M_seed : Int64} {M_bestSet : Int32} {M_text : Nat → Int32} {M_plan : Nat → Int32} {M_read : Nat → Int32} {M_readPage : Nat → Int32} {M_page : Nat → Int32} {M_trial : Nat → Int32} {M_book : Nat → Int32} {M_kept : Nat → Int32} {M_isKept : Nat → Int32} {M_seenPoint : Nat → Int32} {M_seenSum : Nat → Int32} {M_seenWas : Nat → Int32} {p1 : Int32} {p2 : Int32} {p3 : Int32} {k24 : Int64 → (Nat → Int32) → Int32 → Int32 → Option (Int32 × Int32 × Int64 × (Nat → Int32))} {rr : Int32} {u_M_thrown : Int32} {u_M_seed : Int64} {u_M_trial : Nat → Int32} (C0 : kC p s m args meth c D (kTY cI cC cZ) cX7_drawn (some .int) 6 RX7 A) (hk24 : ∀ (M_seed_k : Int64) (M_trial_k : Nat → Int32) (p2_k : Int32) (p3_k : Int32), k24 M_seed_k M_trial_k p2_k p3_k = some (rr, u_M_thrown, u_M_seed, u_M_trial) → ∀ (H : Heap) (locs : List Loc), va_P D vwCl (WD16 cI cC cZ a_M a_M_text a_M_plan a_M_read a_M_readPage a_M_page a_M_trial a_M_book a_M_kept a_M_isKept a_M_seenPoint a_M_seenSum a_M_seenWas M_thrown M_textSize M_place M_doings M_seen M_seed_k M_bestSet M_text M_plan M_read M_readPage M_page M_trial_k M_book M_kept M_isKept M_seenPoint M_seenSum M_seenWas) H → va_D A (WD16 cI cC cZ a_M a_M_text a_M_plan a_M_read a_M_readPage a_M_page a_M_trial a_M_book a_M_kept a_M_isKept a_M_seenPoint a_M_seenSum a_M_seenWas M_thrown M_textSize M_place M_doings M_seen M_seed_k M_bestSet M_text M_plan M_read M_readPage M_page M_trial_k M_book M_kept M_isKept M_seenPoint M_seenSum M_seenWas) → va_S A s.heap H locs → ∀ ls : Array Slot, lv_has ls 6 [(0, .ref a_M), (1, .int p1), (2, .int p2_k), (3, .int p3_k)] → W p l e rm_X7_drawn s m args below meth c H locs 0 0 (MQ below (kQI D (kTY cI cC cZ) A rr (WD16 cI cC cZ a_M a_M_text a_M_plan a_M_read a_M_readPage a_M_page a_M_trial a_M_book a_M_kept a_M_isKept a_M_seenPoint a_M_seenSum a_M_seenWas u_M_thrown M_textSize M_place M_doings M_seen u_M_seed M_bestSet M_text M_plan M_read M_readPage M_page u_M_trial M_book M_kept M_isKept M_seenPoint M_seenSum M_seenWas)) args s 0 0 A) (F0 m 24 ls [])) (h : bk_X7_drawn_103 k24 M_thrown M_seed M_plan M_page M_trial p1 p2 p3 = some (rr, u_M_thrown, u_M_seed, u_M_trial)) {H : Heap} {locs : List Loc} (hP : va_P D vwCl (WD16 cI cC cZ a_M a_M_text a_M_plan a_M_read a_M_readPage a_M_page a_M_trial a_M_book a_M_kept a_M_isKept a_M_seenPoint a_M_seenSum a_M_seenWas M_thrown M_textSize M_place M_doings M_seen M_seed M_bestSet M_text M_plan M_read M_readPage M_page M_trial M_book M_kept M_isKept M_seenPoint M_seenSum M_seenWas) H) (hD : va_D A (WD16 cI cC cZ a_M a_M_text a_M_plan a_M_read a_M_readPage a_M_page a_M_trial a_M_book a_M_kept a_M_isKept a_M_seenPoint a_M_seenSum a_M_seenWas M_thrown M_textSize M_place M_doings M_seen M_seed M_bestSet M_text M_plan M_read M_readPage M_page M_trial M_book M_kept M_isKept M_seenPoint M_seenSum M_seenWas)) (hS : va_S A s.heap H locs) {ls : Array Slot} (hl : lv_has ls 6 [(0, .ref a_M), (1, .int p1), (2, .int p2), (3, .int p3)]) : W p l e rm_X7_drawn s m args below meth c H locs 0 0 (MQ below (kQI D (kTY cI cC cZ) A rr (WD16 cI cC cZ a_M a_M_text a_M_plan a_M_read a_M_readPage a_M_page a_M_trial a_M_book a_M_kept a_M_isKept a_M_seenPoint a_M_seenSum a_M_seenWas u_M_thrown M_textSize M_place M_doings M_seen u_M_seed M_bestSet M_text M_plan M_read M_readPage M_page u_M_trial M_book M_kept M_isKept M_seenPoint M_seenSum M_seenWas)) args s 0 0 A) (F0 m 103 ls []) := by
  obtain ⟨hx, hb, hr, hml, hown, hts, hK, hN, hA, hlocks, hF⟩ := id C0
  unfold bk_X7_drawn_103 at h
  refine lv_iload_n hx hb dX7_drawn_103 rfl (lv_at hl 2 rfl) ?_
  refine lv_aload_n hx hb dX7_drawn_104 rfl (lv_at hl 0 rfl) ?_
  refine lv_aload_n hx hb dX7_drawn_105 rfl (lv_at hl 0 rfl) ?_
  refine va_get (D := D) (ci := 7) (v := .ref a_M_trial) (C := RX7) (T := TX7) (N := 19) hx hb hts inlX7 hown hK hP 0 rfl rfl 8 (by decide) (hts _ kw_89) (fun _ h9 => h9) rfl dX7_drawn_106 ?_
  refine lv_aload_n hx hb dX7_drawn_109 rfl (lv_at hl 0 rfl) ?_
  refine va_get (D := D) (ci := 7) (v := .ref a_M_trial) (C := RX7) (T := TX7) (N := 19) hx hb hts inlX7 hown hK hP 0 rfl rfl 8 (by decide) (hts _ kw_89) (fun _ h9 => h9) rfl dX7_drawn_110 ?_
  obtain ⟨r2, hc1, h⟩ := oc_bind h
  refine kro_i (wc := (WD17 cI cC cZ a_M_trial M_trial)) C0 hP hD hS [6] rfl (kS (n := 1) (As := [.ref a_M_trial]) (rest := [.ref a_M_trial, .ref a_M, .int p2]) (wc := (WD17 cI cC cZ a_M_trial M_trial)) C0 hP hD hS [6] rfl (by decide) (c_X7_live l D cI cC cZ a_M_trial H.size M_trial  r2 hc1) kw_364 kw_362 kw_363 kw_5 (by decide +kernel) (by decide) rfl hl.1 rfl (Nat.le_of_ble_eq_true rfl) ⟨Nat.zero_le _, Nat.zero_le _⟩ dX7_drawn_113) (fun H locs hP hS => ?_)
  refine lv_aload_n hx hb dX7_drawn_116 rfl (lv_at hl 0 rfl) ?_
  refine va_get (D := D) (ci := 7) (v := .ref a_M_trial) (C := RX7) (T := TX7) (N := 19) hx hb hts inlX7 hown hK hP 0 rfl rfl 8 (by decide) (hts _ kw_89) (fun _ h9 => h9) rfl dX7_drawn_117 ?_
  refine lv_iconst (v := (2 : Int32)) hx hb dX7_drawn_120 (by decide) ?_
  refine va_iald hx hb hK hP 6 0 rfl rfl (show ¬ ((2 : Int32) < 0 ∨ 9 ≤ Int32.toNatClampNeg (2 : Int32)) by decide) dX7_drawn_121 ?_
  obtain ⟨r4, hc3, h⟩ := oc_bind h
  refine kro_i (wc := (WD16 cI cC cZ a_M a_M_text a_M_plan a_M_read a_M_readPage a_M_page a_M_trial a_M_book a_M_kept a_M_isKept a_M_seenPoint a_M_seenSum a_M_seenWas M_thrown M_textSize M_place M_doings M_seen M_seed M_bestSet M_text M_plan M_read M_readPage M_page M_trial M_book M_kept M_isKept M_seenPoint M_seenSum M_seenWas)) C0 hP hD hS [0, 1, 2, 3, 4, 5, 6, 7, 8, 9, 10, 11, 12] rfl (kV (n := 3) (As := [.ref a_M_trial, .int r2, .int (M_trial (Int32.toNatClampNeg (2 : Int32)))]) (rest := [.int p2]) (wc := (WD16 cI cC cZ a_M a_M_text a_M_plan a_M_read a_M_readPage a_M_page a_M_trial a_M_book a_M_kept a_M_isKept a_M_seenPoint a_M_seenSum a_M_seenWas M_thrown M_textSize M_place M_doings M_seen M_seed M_bestSet M_text M_plan M_read M_readPage M_page M_trial M_book M_kept M_isKept M_seenPoint M_seenSum M_seenWas)) (C := RX7) C0 hP hD hS [0, 1, 2, 3, 4, 5, 6, 7, 8, 9, 10, 11, 12] rfl (by decide) (c_X7_servedBy_trial l D cI cC cZ a_M a_M_text a_M_plan a_M_read a_M_readPage a_M_page a_M_trial a_M_book a_M_kept a_M_isKept a_M_seenPoint a_M_seenSum a_M_seenWas H.size M_thrown M_textSize M_place M_doings M_seen M_seed M_bestSet M_text M_plan M_read M_readPage M_page M_trial M_book M_kept M_isKept M_seenPoint M_seenSum M_seenWas r2 (M_trial (Int32.toNatClampNeg (2 : Int32))) r4 hc3) kw_553 kw_550 kw_551 kw_552 kw_5 (by decide +kernel) (by decide) rfl rfl rfl hl.1 rfl (Nat.le_of_ble_eq_true rfl) ⟨Nat.zero_le _, Nat.zero_le _⟩ dX7_drawn_122) (fun H locs hP hS => ?_)
  obtain ⟨r6, hc5, h⟩ := oc_bind h
  refine kro_i (wc := (WD0 cI cC cZ)) C0 hP hD hS [] rfl (kS (n := 1) (As := [.int r4]) (rest := [.int p2]) (wc := (WD0 cI cC cZ)) C0 hP hD hS [] rfl (by decide) (c_X7_ones l D cI cC cZ  H.size  r4 r6 hc5) kw_464 kw_462 kw_463 kw_5 (by decide +kernel) (by decide) rfl hl.1 rfl (Nat.le_of_ble_eq_true rfl) ⟨Nat.zero_le _, Nat.zero_le _⟩ dX7_drawn_125) (fun H locs hP hS => ?_)
  refine lv_iadd hx hb dX7_drawn_128 ?_
  refine lv_topi (fun t7 e_t7 => ?_)
  have h := oc_nm e_t7 h
  refine lv_istore_n (lv' := [(2, .int t7), (0, .ref a_M), (1, .int p1), (3, .int p3)]) hx hb dX7_drawn_129 rfl hl (by decide) rfl (fun ls hl => ?_)
  obtain ⟨t8, e_t8⟩ : ∃ y : Int32, y = p3 + (1 : Int32) := ⟨_, rfl⟩
  have h := oc_nm e_t8 h
  refine lv_iinc (v := t8) (lv' := [(3, .int t8), (2, .int t7), (0, .ref a_M), (1, .int p1)]) hx hb dX7_drawn_130 hl (k := 3) rfl (by rw [e_t8]; rfl) (by decide) rfl (fun ls hl => ?_)
  refine lv_goto (tgt := 24) hx hb dX7_drawn_133 (by decide) ?_
  exact hk24 _ _ _ _ h _ _ hP hD hS _ (lv_sub hl [2, 3, 1, 0] rfl)
noncomputable def bk_X7_drawn_69 (k24 : Int64 → (Nat → Int32) → Int32 → Int32 → Option (Int32 × Int32 × Int64 × (Nat → Int32))) (k69 : (Nat → Int32) → Int32 → Option (Int32 × Int32 × Int64 × (Nat → Int32))) (M_thrown : Int32) (M_seed : Int64) (M_plan : Nat → Int32) (M_page : Nat → Int32) (p1 : Int32) (p2 : Int32) (p3 : Int32) (p4 : Int32) (M_trial : Nat → Int32) (p5 : Int32) : Option (Int32 × Int32 × Int64 × (Nat → Int32)) := (f_X7_points M_plan).bind (fun r2 => if r2 ≤ p5 then (bk_X7_drawn_103 k24 M_thrown M_seed M_plan M_page M_trial p1 p2 p3) else (if (((3 : Int32) + p5) < 0 ∨ 9 ≤ Int32.toNatClampNeg ((3 : Int32) + p5)) then none else (nm_ (p5 + (1 : Int32)) (fun t5 => k69 (upd M_trial (Int32.toNatClampNeg ((3 : Int32) + p5)) ((p4 >>> (((5 : Int32) * p5) &&& 31)) &&& (31 : Int32))) t5))))
set_option maxHeartbeats 4000000 in
set_option maxRecDepth 100000 in
theorem wk_X7_drawn_69 {p : Program} {l : Launch} {e : Env} {s : State} {m : MethodId} {args : Array Value} {below : List Frame} {meth : Method} {c : Code} {D : va_G} {cI cC cZ : ClassId} {A : Nat → Prop} {a_M a_M_text a_M_plan a_M_read a_M_readPage a_M_page a_M_trial a_M_book a_M_kept a_M_isKept a_M_seenPoint a_M_seenSum a_M_seenWas : Nat} {M_thrown : Int32} {M_textSize : Int32} {M_place : Int32} {M_doings : Int32} {M_seen : Int32} {M_seed : Int64} {M_bestSet : Int32} {M_text : Nat → Int32} {M_plan : Nat → Int32} {M_read : Nat → Int32} {M_readPage : Nat → Int32} {M_page : Nat → Int32} {M_trial : Nat → Int32} {M_book : Nat → Int32} {M_kept : Nat → Int32} {M_isKept : Nat → Int32} {M_seenPoint : Nat → Int32} {M_seenSum : Nat → Int32} {M_seenWas : Nat → Int32} {p1 : Int32} {p2 : Int32} {p3 : Int32} {p4 : Int32} {p5 : Int32} {k24 : Int64 → (Nat → Int32) → Int32 → Int32 → Option (Int32 × Int32 × Int64 × (Nat → Int32))} {k69 : (Nat → Int32) → Int32 → Option (Int32 × Int32 × Int64 × (Nat → Int32))} {rr : Int32} {u_M_thrown : Int32} {u_M_seed : Int64} {u_M_trial : Nat → Int32} (C0 : kC p s m args meth c D (kTY cI cC cZ) cX7_drawn (some .int) 6 RX7 A) (hk24 : ∀ (M_seed_k : Int64) (M_trial_k : Nat → Int32) (p2_k : Int32) (p3_k : Int32), k24 M_seed_k M_trial_k p2_k p3_k = some (rr, u_M_thrown, u_M_seed, u_M_trial) → ∀ (H : Heap) (locs : List Loc), va_P D vwCl (WD16 cI cC cZ a_M a_M_text a_M_plan a_M_read a_M_readPage a_M_page a_M_trial a_M_book a_M_kept a_M_isKept a_M_seenPoint a_M_seenSum a_M_seenWas M_thrown M_textSize M_place M_doings M_seen M_seed_k M_bestSet M_text M_plan M_read M_readPage M_page M_trial_k M_book M_kept M_isKept M_seenPoint M_seenSum M_seenWas) H → va_D A (WD16 cI cC cZ a_M a_M_text a_M_plan a_M_read a_M_readPage a_M_page a_M_trial a_M_book a_M_kept a_M_isKept a_M_seenPoint a_M_seenSum a_M_seenWas M_thrown M_textSize M_place M_doings M_seen M_seed_k M_bestSet M_text M_plan M_read M_readPage M_page M_trial_k M_book M_kept M_isKept M_seenPoint M_seenSum M_seenWas) → va_S A s.heap H locs → ∀ ls : Array Slot, lv_has ls 6 [(0, .ref a_M), (1, .int p1), (2, .int p2_k), (3, .int p3_k)] → W p l e rm_X7_drawn s m args below meth c H locs 0 0 (MQ below (kQI D (kTY cI cC cZ) A rr (WD16 cI cC cZ a_M a_M_text a_M_plan a_M_read a_M_readPage a_M_page a_M_trial a_M_book a_M_kept a_M_isKept a_M_seenPoint a_M_seenSum a_M_seenWas u_M_thrown M_textSize M_place M_doings M_seen u_M_seed M_bestSet M_text M_plan M_read M_readPage M_page u_M_trial M_book M_kept M_isKept M_seenPoint M_seenSum M_seenWas)) args s 0 0 A) (F0 m 24 ls [])) (hk69 : ∀ (M_trial_k : Nat → Int32) (p5_k : Int32), k69 M_trial_k p5_k = some (rr, u_M_thrown, u_M_seed, u_M_trial) → ∀ (H : Heap) (locs : List Loc), va_P D vwCl (WD16 cI cC cZ a_M a_M_text a_M_plan a_M_read a_M_readPage a_M_page a_M_trial a_M_book a_M_kept a_M_isKept a_M_seenPoint a_M_seenSum a_M_seenWas M_thrown M_textSize M_place M_doings M_seen M_seed M_bestSet M_text M_plan M_read M_readPage M_page M_trial_k M_book M_kept M_isKept M_seenPoint M_seenSum M_seenWas) H → va_D A (WD16 cI cC cZ a_M a_M_text a_M_plan a_M_read a_M_readPage a_M_page a_M_trial a_M_book a_M_kept a_M_isKept a_M_seenPoint a_M_seenSum a_M_seenWas M_thrown M_textSize M_place M_doings M_seen M_seed M_bestSet M_text M_plan M_read M_readPage M_page M_trial_k M_book M_kept M_isKept M_seenPoint M_seenSum M_seenWas) → va_S A s.heap H locs → ∀ ls : Array Slot, lv_has ls 6 [(0, .ref a_M), (1, .int p1), (2, .int p2), (3, .int p3), (4, .int p4), (5, .int p5_k)] → W p l e rm_X7_drawn s m args below meth c H locs 0 0 (MQ below (kQI D (kTY cI cC cZ) A rr (WD16 cI cC cZ a_M a_M_text a_M_plan a_M_read a_M_readPage a_M_page a_M_trial a_M_book a_M_kept a_M_isKept a_M_seenPoint a_M_seenSum a_M_seenWas u_M_thrown M_textSize M_place M_doings M_seen u_M_seed M_bestSet M_text M_plan M_read M_readPage M_page u_M_trial M_book M_kept M_isKept M_seenPoint M_seenSum M_seenWas)) args s 0 0 A) (F0 m 69 ls [])) (h : bk_X7_drawn_69 k24 k69 M_thrown M_seed M_plan M_page p1 p2 p3 p4 M_trial p5 = some (rr, u_M_thrown, u_M_seed, u_M_trial)) {H : Heap} {locs : List Loc} (hP : va_P D vwCl (WD16 cI cC cZ a_M a_M_text a_M_plan a_M_read a_M_readPage a_M_page a_M_trial a_M_book a_M_kept a_M_isKept a_M_seenPoint a_M_seenSum a_M_seenWas M_thrown M_textSize M_place M_doings M_seen M_seed M_bestSet M_text M_plan M_read M_readPage M_page M_trial M_book M_kept M_isKept M_seenPoint M_seenSum M_seenWas) H) (hD : va_D A (WD16 cI cC cZ a_M a_M_text a_M_plan a_M_read a_M_readPage a_M_page a_M_trial a_M_book a_M_kept a_M_isKept a_M_seenPoint a_M_seenSum a_M_seenWas M_thrown M_textSize M_place M_doings M_seen M_seed M_bestSet M_text M_plan M_read M_readPage M_page M_trial M_book M_kept M_isKept M_seenPoint M_seenSum M_seenWas)) (hS : va_S A s.heap H locs) {ls : Array Slot} (hl : lv_has ls 6 [(0, .ref a_M), (1, .int p1), (2, .int p2), (3, .int p3), (4, .int p4), (5, .int p5)]) : W p l e rm_X7_drawn s m args below meth c H locs 0 0 (MQ below (kQI D (kTY cI cC cZ) A rr (WD16 cI cC cZ a_M a_M_text a_M_plan a_M_read a_M_readPage a_M_page a_M_trial a_M_book a_M_kept a_M_isKept a_M_seenPoint a_M_seenSum a_M_seenWas u_M_thrown M_textSize M_place M_doings M_seen u_M_seed M_bestSet M_text M_plan M_read M_readPage M_page u_M_trial M_book M_kept M_isKept M_seenPoint M_seenSum M_seenWas)) args s 0 0 A) (F0 m 69 ls []) := by
  obtain ⟨hx, hb, hr, hml, hown, hts, hK, hN, hA, hlocks, hF⟩ := id C0
  unfold bk_X7_drawn_69 at h
  refine lv_iload hx hb dX7_drawn_69 (lv_at hl 5 rfl) ?_
  refine lv_aload_n hx hb dX7_drawn_71 rfl (lv_at hl 0 rfl) ?_
  obtain ⟨r2, hc1, h⟩ := oc_bind h
  refine kro_i (wc := (WD16 cI cC cZ a_M a_M_text a_M_plan a_M_read a_M_readPage a_M_page a_M_trial a_M_book a_M_kept a_M_isKept a_M_seenPoint a_M_seenSum a_M_seenWas M_thrown M_textSize M_place M_doings M_seen M_seed M_bestSet M_text M_plan M_read M_readPage M_page M_trial M_book M_kept M_isKept M_seenPoint M_seenSum M_seenWas)) C0 hP hD hS [0, 1, 2, 3, 4, 5, 6, 7, 8, 9, 10, 11, 12] rfl (kV (n := 0) (As := []) (rest := [.int p5]) (wc := (WD16 cI cC cZ a_M a_M_text a_M_plan a_M_read a_M_readPage a_M_page a_M_trial a_M_book a_M_kept a_M_isKept a_M_seenPoint a_M_seenSum a_M_seenWas M_thrown M_textSize M_place M_doings M_seen M_seed M_bestSet M_text M_plan M_read M_readPage M_page M_trial M_book M_kept M_isKept M_seenPoint M_seenSum M_seenWas)) (C := RX7) C0 hP hD hS [0, 1, 2, 3, 4, 5, 6, 7, 8, 9, 10, 11, 12] rfl (by decide) (c_X7_points l D cI cC cZ a_M a_M_text a_M_plan a_M_read a_M_readPage a_M_page a_M_trial a_M_book a_M_kept a_M_isKept a_M_seenPoint a_M_seenSum a_M_seenWas H.size M_thrown M_textSize M_place M_doings M_seen M_seed M_bestSet M_text M_plan M_read M_readPage M_page M_trial M_book M_kept M_isKept M_seenPoint M_seenSum M_seenWas  r2 hc1) kw_361 kw_358 kw_359 kw_360 kw_5 (by decide +kernel) (by decide) rfl rfl rfl hl.1 rfl (Nat.le_of_ble_eq_true rfl) ⟨Nat.zero_le _, Nat.zero_le _⟩ dX7_drawn_72) (fun H locs hP hS => ?_)
  refine lv_icmp_ge (tgt := 103) hx hb dX7_drawn_75 (by decide) (fun c3 => ?_) (fun c3 => ?_)
  · have h := oc_t c3 h
    exact wk_X7_drawn_103 C0 hk24 h hP hD hS (lv_sub hl [0, 1, 2, 3] rfl)
  · have h := oc_f c3 h
    refine lv_aload_n hx hb dX7_drawn_78 rfl (lv_at hl 0 rfl) ?_
    refine va_get (D := D) (ci := 7) (v := .ref a_M_trial) (C := RX7) (T := TX7) (N := 19) hx hb hts inlX7 hown hK hP 0 rfl rfl 8 (by decide) (hts _ kw_89) (fun _ h9 => h9) rfl dX7_drawn_79 ?_
    refine lv_iconst (v := (3 : Int32)) hx hb dX7_drawn_82 (by decide) ?_
    refine lv_iload hx hb dX7_drawn_83 (lv_at hl 5 rfl) ?_
    refine lv_iadd hx hb dX7_drawn_85 ?_
    refine lv_iload hx hb dX7_drawn_86 (lv_at hl 4 rfl) ?_
    refine lv_iconst (v := (5 : Int32)) hx hb dX7_drawn_88 (by decide) ?_
    refine lv_iload hx hb dX7_drawn_89 (lv_at hl 5 rfl) ?_
    refine lv_imul hx hb dX7_drawn_91 ?_
    refine lv_ishr hx hb dX7_drawn_92 ?_
    refine lv_bipush (v := (31 : Int32)) hx hb dX7_drawn_93 (by decide) ?_
    refine lv_iand hx hb dX7_drawn_95 ?_
    obtain ⟨hb4, h⟩ := oc_else h
    refine va_iast hx hb hK hP hD hS 6 0 rfl rfl hb4 dX7_drawn_96 (fun H locs hP hD hS => ?_)
    have hP : va_P D vwCl (WD16 cI cC cZ a_M a_M_text a_M_plan a_M_read a_M_readPage a_M_page a_M_trial a_M_book a_M_kept a_M_isKept a_M_seenPoint a_M_seenSum a_M_seenWas M_thrown M_textSize M_place M_doings M_seen M_seed M_bestSet M_text M_plan M_read M_readPage M_page (upd M_trial (Int32.toNatClampNeg ((3 : Int32) + p5)) ((p4 >>> (((5 : Int32) * p5) &&& 31)) &&& (31 : Int32))) M_book M_kept M_isKept M_seenPoint M_seenSum M_seenWas) H := hP
    have hD : va_D A (WD16 cI cC cZ a_M a_M_text a_M_plan a_M_read a_M_readPage a_M_page a_M_trial a_M_book a_M_kept a_M_isKept a_M_seenPoint a_M_seenSum a_M_seenWas M_thrown M_textSize M_place M_doings M_seen M_seed M_bestSet M_text M_plan M_read M_readPage M_page (upd M_trial (Int32.toNatClampNeg ((3 : Int32) + p5)) ((p4 >>> (((5 : Int32) * p5) &&& 31)) &&& (31 : Int32))) M_book M_kept M_isKept M_seenPoint M_seenSum M_seenWas) := hD
    obtain ⟨t5, e_t5⟩ : ∃ y : Int32, y = p5 + (1 : Int32) := ⟨_, rfl⟩
    have h := oc_nm e_t5 h
    refine lv_iinc (v := t5) (lv' := [(5, .int t5), (0, .ref a_M), (1, .int p1), (2, .int p2), (3, .int p3), (4, .int p4)]) hx hb dX7_drawn_97 hl (k := 5) rfl (by rw [e_t5]; rfl) (by decide) rfl (fun ls hl => ?_)
    refine lv_goto (tgt := 69) hx hb dX7_drawn_100 (by decide) ?_
    exact hk69 _ _ h _ _ hP hD hS _ (lv_sub hl [1, 2, 3, 4, 5, 0] rfl)
noncomputable def lp_X7_drawn_69 (k24 : Int64 → (Nat → Int32) → Int32 → Int32 → Option (Int32 × Int32 × Int64 × (Nat → Int32))) (M_thrown : Int32) (M_seed : Int64) (M_plan : Nat → Int32) (M_page : Nat → Int32) (p1 : Int32) (p2 : Int32) (p3 : Int32) (p4 : Int32) (n : Nat) : (Nat → Int32) → Int32 → Option (Int32 × Int32 × Int64 × (Nat → Int32)) := Nat.rec (motive := fun _ => (Nat → Int32) → Int32 → Option (Int32 × Int32 × Int64 × (Nat → Int32))) (fun _ _ => none) (fun _ ih => bk_X7_drawn_69 k24 ih M_thrown M_seed M_plan M_page p1 p2 p3 p4) n
set_option maxHeartbeats 4000000 in
set_option maxRecDepth 100000 in
theorem wl_X7_drawn_69 {p : Program} {l : Launch} {e : Env} {s : State} {m : MethodId} {args : Array Value} {below : List Frame} {meth : Method} {c : Code} {D : va_G} {cI cC cZ : ClassId} {A : Nat → Prop} {a_M a_M_text a_M_plan a_M_read a_M_readPage a_M_page a_M_trial a_M_book a_M_kept a_M_isKept a_M_seenPoint a_M_seenSum a_M_seenWas : Nat} {M_thrown : Int32} {M_textSize : Int32} {M_place : Int32} {M_doings : Int32} {M_seen : Int32} {M_seed : Int64} {M_bestSet : Int32} {M_text : Nat → Int32} {M_plan : Nat → Int32} {M_read : Nat → Int32} {M_readPage : Nat → Int32} {M_page : Nat → Int32} {M_book : Nat → Int32} {M_kept : Nat → Int32} {M_isKept : Nat → Int32} {M_seenPoint : Nat → Int32} {M_seenSum : Nat → Int32} {M_seenWas : Nat → Int32} {p1 : Int32} {p2 : Int32} {p3 : Int32} {p4 : Int32} {k24 : Int64 → (Nat → Int32) → Int32 → Int32 → Option (Int32 × Int32 × Int64 × (Nat → Int32))} {rr : Int32} {u_M_thrown : Int32} {u_M_seed : Int64} {u_M_trial : Nat → Int32} (C0 : kC p s m args meth c D (kTY cI cC cZ) cX7_drawn (some .int) 6 RX7 A) (hk24 : ∀ (M_seed_k : Int64) (M_trial_k : Nat → Int32) (p2_k : Int32) (p3_k : Int32), k24 M_seed_k M_trial_k p2_k p3_k = some (rr, u_M_thrown, u_M_seed, u_M_trial) → ∀ (H : Heap) (locs : List Loc), va_P D vwCl (WD16 cI cC cZ a_M a_M_text a_M_plan a_M_read a_M_readPage a_M_page a_M_trial a_M_book a_M_kept a_M_isKept a_M_seenPoint a_M_seenSum a_M_seenWas M_thrown M_textSize M_place M_doings M_seen M_seed_k M_bestSet M_text M_plan M_read M_readPage M_page M_trial_k M_book M_kept M_isKept M_seenPoint M_seenSum M_seenWas) H → va_D A (WD16 cI cC cZ a_M a_M_text a_M_plan a_M_read a_M_readPage a_M_page a_M_trial a_M_book a_M_kept a_M_isKept a_M_seenPoint a_M_seenSum a_M_seenWas M_thrown M_textSize M_place M_doings M_seen M_seed_k M_bestSet M_text M_plan M_read M_readPage M_page M_trial_k M_book M_kept M_isKept M_seenPoint M_seenSum M_seenWas) → va_S A s.heap H locs → ∀ ls : Array Slot, lv_has ls 6 [(0, .ref a_M), (1, .int p1), (2, .int p2_k), (3, .int p3_k)] → W p l e rm_X7_drawn s m args below meth c H locs 0 0 (MQ below (kQI D (kTY cI cC cZ) A rr (WD16 cI cC cZ a_M a_M_text a_M_plan a_M_read a_M_readPage a_M_page a_M_trial a_M_book a_M_kept a_M_isKept a_M_seenPoint a_M_seenSum a_M_seenWas u_M_thrown M_textSize M_place M_doings M_seen u_M_seed M_bestSet M_text M_plan M_read M_readPage M_page u_M_trial M_book M_kept M_isKept M_seenPoint M_seenSum M_seenWas)) args s 0 0 A) (F0 m 24 ls [])) : ∀ (n : Nat) (M_trial : Nat → Int32) (p5 : Int32), lp_X7_drawn_69 k24 M_thrown M_seed M_plan M_page p1 p2 p3 p4 n M_trial p5 = some (rr, u_M_thrown, u_M_seed, u_M_trial) → ∀ (H : Heap) (locs : List Loc), va_P D vwCl (WD16 cI cC cZ a_M a_M_text a_M_plan a_M_read a_M_readPage a_M_page a_M_trial a_M_book a_M_kept a_M_isKept a_M_seenPoint a_M_seenSum a_M_seenWas M_thrown M_textSize M_place M_doings M_seen M_seed M_bestSet M_text M_plan M_read M_readPage M_page M_trial M_book M_kept M_isKept M_seenPoint M_seenSum M_seenWas) H → va_D A (WD16 cI cC cZ a_M a_M_text a_M_plan a_M_read a_M_readPage a_M_page a_M_trial a_M_book a_M_kept a_M_isKept a_M_seenPoint a_M_seenSum a_M_seenWas M_thrown M_textSize M_place M_doings M_seen M_seed M_bestSet M_text M_plan M_read M_readPage M_page M_trial M_book M_kept M_isKept M_seenPoint M_seenSum M_seenWas) → va_S A s.heap H locs → ∀ ls : Array Slot, lv_has ls 6 [(0, .ref a_M), (1, .int p1), (2, .int p2), (3, .int p3), (4, .int p4), (5, .int p5)] → W p l e rm_X7_drawn s m args below meth c H locs 0 0 (MQ below (kQI D (kTY cI cC cZ) A rr (WD16 cI cC cZ a_M a_M_text a_M_plan a_M_read a_M_readPage a_M_page a_M_trial a_M_book a_M_kept a_M_isKept a_M_seenPoint a_M_seenSum a_M_seenWas u_M_thrown M_textSize M_place M_doings M_seen u_M_seed M_bestSet M_text M_plan M_read M_readPage M_page u_M_trial M_book M_kept M_isKept M_seenPoint M_seenSum M_seenWas)) args s 0 0 A) (F0 m 69 ls []) := by
  intro n
  induction n with
  | zero => intro M_trial p5 h; cases (show (none : Option (Int32 × Int32 × Int64 × (Nat → Int32))) = some _ from h)
  | succ n ih =>
    intro M_trial p5 h H locs hP hD hS ls hl
    exact wk_X7_drawn_69 C0 hk24 (fun M_trial p5 h H locs hP hD hS ls hl => ih M_trial p5 h H locs hP hD hS ls hl) (show bk_X7_drawn_69 k24 (lp_X7_drawn_69 k24 M_thrown M_seed M_plan M_page p1 p2 p3 p4 n) M_thrown M_seed M_plan M_page p1 p2 p3 p4 M_trial p5 = some _ from h) hP hD hS hl
noncomputable def bk_X7_drawn_24 (k24 : Int64 → (Nat → Int32) → Int32 → Int32 → Option (Int32 × Int32 × Int64 × (Nat → Int32))) (M_thrown : Int32) (M_plan : Nat → Int32) (M_page : Nat → Int32) (p1 : Int32) (M_seed : Int64) (M_trial : Nat → Int32) (p2 : Int32) (p3 : Int32) : Option (Int32 × Int32 × Int64 × (Nat → Int32)) := if p1 ≤ p3 then (some (p2, M_thrown, M_seed, M_trial)) else (nm_ ((M_seed * (6364136223846793005 : Int64)) + (1442695040888963407 : Int64)) (fun t2 => nm_ (Int64.toInt32 ((Int64.toUInt64 t2 >>> ((Int32.toInt64 (33 : Int32)).toUInt64 &&& Int64.toUInt64 63)).toInt64)) (fun t3 => (f_X7_copy M_page M_trial).bind (fun u5 => lp_X7_drawn_69 k24 M_thrown t2 M_plan M_page p1 p2 p3 t3 1000 u5 (0 : Int32)))))
set_option maxHeartbeats 4000000 in
set_option maxRecDepth 100000 in
theorem wk_X7_drawn_24 {p : Program} {l : Launch} {e : Env} {s : State} {m : MethodId} {args : Array Value} {below : List Frame} {meth : Method} {c : Code} {D : va_G} {cI cC cZ : ClassId} {A : Nat → Prop} {a_M a_M_text a_M_plan a_M_read a_M_readPage a_M_page a_M_trial a_M_book a_M_kept a_M_isKept a_M_seenPoint a_M_seenSum a_M_seenWas : Nat} {M_thrown : Int32} {M_textSize : Int32} {M_place : Int32} {M_doings : Int32} {M_seen : Int32} {M_seed : Int64} {M_bestSet : Int32} {M_text : Nat → Int32} {M_plan : Nat → Int32} {M_read : Nat → Int32} {M_readPage : Nat → Int32} {M_page : Nat → Int32} {M_trial : Nat → Int32} {M_book : Nat → Int32} {M_kept : Nat → Int32} {M_isKept : Nat → Int32} {M_seenPoint : Nat → Int32} {M_seenSum : Nat → Int32} {M_seenWas : Nat → Int32} {p1 : Int32} {p2 : Int32} {p3 : Int32} {k24 : Int64 → (Nat → Int32) → Int32 → Int32 → Option (Int32 × Int32 × Int64 × (Nat → Int32))} {rr : Int32} {u_M_thrown : Int32} {u_M_seed : Int64} {u_M_trial : Nat → Int32} (C0 : kC p s m args meth c D (kTY cI cC cZ) cX7_drawn (some .int) 6 RX7 A) (hk24 : ∀ (M_seed_k : Int64) (M_trial_k : Nat → Int32) (p2_k : Int32) (p3_k : Int32), k24 M_seed_k M_trial_k p2_k p3_k = some (rr, u_M_thrown, u_M_seed, u_M_trial) → ∀ (H : Heap) (locs : List Loc), va_P D vwCl (WD16 cI cC cZ a_M a_M_text a_M_plan a_M_read a_M_readPage a_M_page a_M_trial a_M_book a_M_kept a_M_isKept a_M_seenPoint a_M_seenSum a_M_seenWas M_thrown M_textSize M_place M_doings M_seen M_seed_k M_bestSet M_text M_plan M_read M_readPage M_page M_trial_k M_book M_kept M_isKept M_seenPoint M_seenSum M_seenWas) H → va_D A (WD16 cI cC cZ a_M a_M_text a_M_plan a_M_read a_M_readPage a_M_page a_M_trial a_M_book a_M_kept a_M_isKept a_M_seenPoint a_M_seenSum a_M_seenWas M_thrown M_textSize M_place M_doings M_seen M_seed_k M_bestSet M_text M_plan M_read M_readPage M_page M_trial_k M_book M_kept M_isKept M_seenPoint M_seenSum M_seenWas) → va_S A s.heap H locs → ∀ ls : Array Slot, lv_has ls 6 [(0, .ref a_M), (1, .int p1), (2, .int p2_k), (3, .int p3_k)] → W p l e rm_X7_drawn s m args below meth c H locs 0 0 (MQ below (kQI D (kTY cI cC cZ) A rr (WD16 cI cC cZ a_M a_M_text a_M_plan a_M_read a_M_readPage a_M_page a_M_trial a_M_book a_M_kept a_M_isKept a_M_seenPoint a_M_seenSum a_M_seenWas u_M_thrown M_textSize M_place M_doings M_seen u_M_seed M_bestSet M_text M_plan M_read M_readPage M_page u_M_trial M_book M_kept M_isKept M_seenPoint M_seenSum M_seenWas)) args s 0 0 A) (F0 m 24 ls [])) (h : bk_X7_drawn_24 k24 M_thrown M_plan M_page p1 M_seed M_trial p2 p3 = some (rr, u_M_thrown, u_M_seed, u_M_trial)) {H : Heap} {locs : List Loc} (hP : va_P D vwCl (WD16 cI cC cZ a_M a_M_text a_M_plan a_M_read a_M_readPage a_M_page a_M_trial a_M_book a_M_kept a_M_isKept a_M_seenPoint a_M_seenSum a_M_seenWas M_thrown M_textSize M_place M_doings M_seen M_seed M_bestSet M_text M_plan M_read M_readPage M_page M_trial M_book M_kept M_isKept M_seenPoint M_seenSum M_seenWas) H) (hD : va_D A (WD16 cI cC cZ a_M a_M_text a_M_plan a_M_read a_M_readPage a_M_page a_M_trial a_M_book a_M_kept a_M_isKept a_M_seenPoint a_M_seenSum a_M_seenWas M_thrown M_textSize M_place M_doings M_seen M_seed M_bestSet M_text M_plan M_read M_readPage M_page M_trial M_book M_kept M_isKept M_seenPoint M_seenSum M_seenWas)) (hS : va_S A s.heap H locs) {ls : Array Slot} (hl : lv_has ls 6 [(0, .ref a_M), (1, .int p1), (2, .int p2), (3, .int p3)]) : W p l e rm_X7_drawn s m args below meth c H locs 0 0 (MQ below (kQI D (kTY cI cC cZ) A rr (WD16 cI cC cZ a_M a_M_text a_M_plan a_M_read a_M_readPage a_M_page a_M_trial a_M_book a_M_kept a_M_isKept a_M_seenPoint a_M_seenSum a_M_seenWas u_M_thrown M_textSize M_place M_doings M_seen u_M_seed M_bestSet M_text M_plan M_read M_readPage M_page u_M_trial M_book M_kept M_isKept M_seenPoint M_seenSum M_seenWas)) args s 0 0 A) (F0 m 24 ls []) := by
  obtain ⟨hx, hb, hr, hml, hown, hts, hK, hN, hA, hlocks, hF⟩ := id C0
  unfold bk_X7_drawn_24 at h
  refine lv_iload_n hx hb dX7_drawn_24 rfl (lv_at hl 3 rfl) ?_
  refine lv_iload_n hx hb dX7_drawn_25 rfl (lv_at hl 1 rfl) ?_
  refine lv_icmp_ge (tgt := 136) hx hb dX7_drawn_26 (by decide) (fun c1 => ?_) (fun c1 => ?_)
  · have h := oc_t c1 h
    refine lv_iload_n hx hb dX7_drawn_136 rfl (lv_at hl 2 rfl) ?_
    cases h
    exact kret_i C0 hP hD hS rfl dX7_drawn_137
  · have h := oc_f c1 h
    refine lv_aload_n hx hb dX7_drawn_29 rfl (lv_at hl 0 rfl) ?_
    refine lv_aload_n hx hb dX7_drawn_30 rfl (lv_at hl 0 rfl) ?_
    refine va_get (D := D) (ci := 7) (v := .long M_seed) (C := RX7) (T := TX7) (N := 19) hx hb hts inlX7 hown hK hP 0 rfl rfl 17 (by decide) (hts _ kw_767) (fun _ h9 => h9) rfl dX7_drawn_31 ?_
    refine lv_ldc2 (v := (6364136223846793005 : Int64)) hx hb hown (hts _ kw_779) dX7_drawn_34 ?_
    refine lv_lmul hx hb dX7_drawn_37 ?_
    refine lv_ldc2 (v := (1442695040888963407 : Int64)) hx hb hown (hts _ kw_780) dX7_drawn_38 ?_
    refine lv_ladd hx hb dX7_drawn_41 ?_
    refine lv_topl (fun t2 e_t2 => ?_)
    have h := oc_nm e_t2 h
    refine va_put (D := D) (ci := 7) (v := .long t2) (ty := .long) (C := RX7) (T := TX7) (N := 19) hx hb hts inlX7 tyX7 tyX7_ok nmX7 hown hK hP hD hS 0 rfl rfl 17 (by decide) (hts _ kw_767) (fun _ h9 => h9) rfl (by decide +kernel) rfl rfl (Nat.le_of_ble_eq_true rfl) dX7_drawn_42 (fun H locs hP hD hS => ?_)
    have hP : va_P D vwCl (WD16 cI cC cZ a_M a_M_text a_M_plan a_M_read a_M_readPage a_M_page a_M_trial a_M_book a_M_kept a_M_isKept a_M_seenPoint a_M_seenSum a_M_seenWas M_thrown M_textSize M_place M_doings M_seen t2 M_bestSet M_text M_plan M_read M_readPage M_page M_trial M_book M_kept M_isKept M_seenPoint M_seenSum M_seenWas) H := hP
    have hD : va_D A (WD16 cI cC cZ a_M a_M_text a_M_plan a_M_read a_M_readPage a_M_page a_M_trial a_M_book a_M_kept a_M_isKept a_M_seenPoint a_M_seenSum a_M_seenWas M_thrown M_textSize M_place M_doings M_seen t2 M_bestSet M_text M_plan M_read M_readPage M_page M_trial M_book M_kept M_isKept M_seenPoint M_seenSum M_seenWas) := hD
    refine lv_aload_n hx hb dX7_drawn_45 rfl (lv_at hl 0 rfl) ?_
    refine va_get (D := D) (ci := 7) (v := .long t2) (C := RX7) (T := TX7) (N := 19) hx hb hts inlX7 hown hK hP 0 rfl rfl 17 (by decide) (hts _ kw_767) (fun _ h9 => h9) rfl dX7_drawn_46 ?_
    refine lv_bipush (v := (33 : Int32)) hx hb dX7_drawn_49 (by decide) ?_
    refine lv_lushr hx hb dX7_drawn_51 rfl ?_
    refine lv_l2i hx hb dX7_drawn_52 rfl ?_
    refine lv_topi (fun t3 e_t3 => ?_)
    have h := oc_nm e_t3 h
    refine lv_istore (lv' := [(4, .int t3), (0, .ref a_M), (1, .int p1), (2, .int p2), (3, .int p3)]) hx hb dX7_drawn_53 hl (by decide) rfl (fun ls hl => ?_)
    refine lv_aload_n hx hb dX7_drawn_55 rfl (lv_at hl 1 rfl) ?_
    refine va_get (D := D) (ci := 7) (v := .ref a_M_page) (C := RX7) (T := TX7) (N := 19) hx hb hts inlX7 hown hK hP 0 rfl rfl 7 (by decide) (hts _ kw_88) (fun _ h9 => h9) rfl dX7_drawn_56 ?_
    refine lv_aload_n hx hb dX7_drawn_59 rfl (lv_at hl 1 rfl) ?_
    refine va_get (D := D) (ci := 7) (v := .ref a_M_trial) (C := RX7) (T := TX7) (N := 19) hx hb hts inlX7 hown hK hP 0 rfl rfl 8 (by decide) (hts _ kw_89) (fun _ h9 => h9) rfl dX7_drawn_60 ?_
    obtain ⟨u5, hc4, h⟩ := oc_bind h
    refine kgo_v (wc := (WD15 cI cC cZ a_M_page a_M_trial M_page M_trial)) (wc' := (WD15 cI cC cZ a_M_page a_M_trial M_page u5)) (ws' := (WD16 cI cC cZ a_M a_M_text a_M_plan a_M_read a_M_readPage a_M_page a_M_trial a_M_book a_M_kept a_M_isKept a_M_seenPoint a_M_seenSum a_M_seenWas M_thrown M_textSize M_place M_doings M_seen t2 M_bestSet M_text M_plan M_read M_readPage M_page u5 M_book M_kept M_isKept M_seenPoint M_seenSum M_seenWas)) C0 hP hD hS [5, 6] [0, 1, 2, 3, 4, 7, 8, 9, 10, 11, 12] [0, 1, 2, 3, 4, 11, 12, 5, 6, 7, 8, 9, 10] [(a_M, .inr (7, [.int M_thrown, .ref a_M_text, .int M_textSize, .int M_place, .ref a_M_plan, .ref a_M_read, .ref a_M_readPage, .ref a_M_page, .ref a_M_trial, .ref a_M_book, .int M_doings, .ref a_M_kept, .ref a_M_isKept, .int M_seen, .ref a_M_seenPoint, .ref a_M_seenSum, .ref a_M_seenWas, .long t2, .int M_bestSet])), (a_M_text, .inl (cI, 99, .inl M_text)), (a_M_plan, .inl (cI, 78, .inl M_plan)), (a_M_read, .inl (cI, 78, .inl M_read)), (a_M_readPage, .inl (cI, 9, .inl M_readPage)), (a_M_book, .inl (cI, 126, .inl M_book)), (a_M_kept, .inl (cI, 18, .inl M_kept)), (a_M_isKept, .inl (cZ, 2, .inl M_isKept)), (a_M_seenPoint, .inl (cI, 6, .inl M_seenPoint)), (a_M_seenSum, .inl (cI, 6, .inl M_seenSum)), (a_M_seenWas, .inl (cI, 6, .inl M_seenWas))] rfl rfl (by decide) (by decide) rfl (by decide) (kS (n := 2) (As := [.ref a_M_page, .ref a_M_trial]) (rest := []) (wc := (WD15 cI cC cZ a_M_page a_M_trial M_page M_trial)) C0 hP hD hS [5, 6] rfl (by decide) (c_X7_copy l D cI cC cZ a_M_page a_M_trial H.size M_page M_trial  u5 hc4) kw_272 kw_270 kw_271 kw_5 (by decide +kernel) (by decide) rfl hl.1 rfl (Nat.le_of_ble_eq_true rfl) ⟨Nat.zero_le _, Nat.zero_le _⟩ dX7_drawn_63) (fun H locs hP hD hS => ?_)
    refine lv_iconst (v := (0 : Int32)) hx hb dX7_drawn_66 (by decide) ?_
    refine lv_istore (lv' := [(5, .int (0 : Int32)), (4, .int t3), (0, .ref a_M), (1, .int p1), (2, .int p2), (3, .int p3)]) hx hb dX7_drawn_67 hl (by decide) rfl (fun ls hl => ?_)
    exact wl_X7_drawn_69 C0 hk24 _ _ _ h _ _ hP hD hS _ (lv_sub hl [2, 3, 4, 5, 1, 0] rfl)
noncomputable def lp_X7_drawn_24  (M_thrown : Int32) (M_plan : Nat → Int32) (M_page : Nat → Int32) (p1 : Int32) (n : Nat) : Int64 → (Nat → Int32) → Int32 → Int32 → Option (Int32 × Int32 × Int64 × (Nat → Int32)) := Nat.rec (motive := fun _ => Int64 → (Nat → Int32) → Int32 → Int32 → Option (Int32 × Int32 × Int64 × (Nat → Int32))) (fun _ _ _ _ => none) (fun _ ih => bk_X7_drawn_24  ih M_thrown M_plan M_page p1) n
set_option maxHeartbeats 4000000 in
set_option maxRecDepth 100000 in
theorem wl_X7_drawn_24 {p : Program} {l : Launch} {e : Env} {s : State} {m : MethodId} {args : Array Value} {below : List Frame} {meth : Method} {c : Code} {D : va_G} {cI cC cZ : ClassId} {A : Nat → Prop} {a_M a_M_text a_M_plan a_M_read a_M_readPage a_M_page a_M_trial a_M_book a_M_kept a_M_isKept a_M_seenPoint a_M_seenSum a_M_seenWas : Nat} {M_thrown : Int32} {M_textSize : Int32} {M_place : Int32} {M_doings : Int32} {M_seen : Int32} {M_bestSet : Int32} {M_text : Nat → Int32} {M_plan : Nat → Int32} {M_read : Nat → Int32} {M_readPage : Nat → Int32} {M_page : Nat → Int32} {M_book : Nat → Int32} {M_kept : Nat → Int32} {M_isKept : Nat → Int32} {M_seenPoint : Nat → Int32} {M_seenSum : Nat → Int32} {M_seenWas : Nat → Int32} {p1 : Int32}  {rr : Int32} {u_M_thrown : Int32} {u_M_seed : Int64} {u_M_trial : Nat → Int32} (C0 : kC p s m args meth c D (kTY cI cC cZ) cX7_drawn (some .int) 6 RX7 A)  : ∀ (n : Nat) (M_seed : Int64) (M_trial : Nat → Int32) (p2 : Int32) (p3 : Int32), lp_X7_drawn_24  M_thrown M_plan M_page p1 n M_seed M_trial p2 p3 = some (rr, u_M_thrown, u_M_seed, u_M_trial) → ∀ (H : Heap) (locs : List Loc), va_P D vwCl (WD16 cI cC cZ a_M a_M_text a_M_plan a_M_read a_M_readPage a_M_page a_M_trial a_M_book a_M_kept a_M_isKept a_M_seenPoint a_M_seenSum a_M_seenWas M_thrown M_textSize M_place M_doings M_seen M_seed M_bestSet M_text M_plan M_read M_readPage M_page M_trial M_book M_kept M_isKept M_seenPoint M_seenSum M_seenWas) H → va_D A (WD16 cI cC cZ a_M a_M_text a_M_plan a_M_read a_M_readPage a_M_page a_M_trial a_M_book a_M_kept a_M_isKept a_M_seenPoint a_M_seenSum a_M_seenWas M_thrown M_textSize M_place M_doings M_seen M_seed M_bestSet M_text M_plan M_read M_readPage M_page M_trial M_book M_kept M_isKept M_seenPoint M_seenSum M_seenWas) → va_S A s.heap H locs → ∀ ls : Array Slot, lv_has ls 6 [(0, .ref a_M), (1, .int p1), (2, .int p2), (3, .int p3)] → W p l e rm_X7_drawn s m args below meth c H locs 0 0 (MQ below (kQI D (kTY cI cC cZ) A rr (WD16 cI cC cZ a_M a_M_text a_M_plan a_M_read a_M_readPage a_M_page a_M_trial a_M_book a_M_kept a_M_isKept a_M_seenPoint a_M_seenSum a_M_seenWas u_M_thrown M_textSize M_place M_doings M_seen u_M_seed M_bestSet M_text M_plan M_read M_readPage M_page u_M_trial M_book M_kept M_isKept M_seenPoint M_seenSum M_seenWas)) args s 0 0 A) (F0 m 24 ls []) := by
  intro n
  induction n with
  | zero => intro M_seed M_trial p2 p3 h; cases (show (none : Option (Int32 × Int32 × Int64 × (Nat → Int32))) = some _ from h)
  | succ n ih =>
    intro M_seed M_trial p2 p3 h H locs hP hD hS ls hl
    exact wk_X7_drawn_24 C0  (fun M_seed M_trial p2 p3 h H locs hP hD hS ls hl => ih M_seed M_trial p2 p3 h H locs hP hD hS ls hl) (show bk_X7_drawn_24  (lp_X7_drawn_24  M_thrown M_plan M_page p1 n) M_thrown M_plan M_page p1 M_seed M_trial p2 p3 = some _ from h) hP hD hS hl
noncomputable def f_X7_drawn (M_thrown : Int32) (M_seed : Int64) (M_plan : Nat → Int32) (M_page : Nat → Int32) (M_trial : Nat → Int32) (p1 : Int32) : Option (Int32 × Int32 × Int64 × (Nat → Int32)) := (f_X7_in (Int32.toInt64 p1) (1 : Int64) (20 : Int64)).bind (fun r2 => if r2 = 0 then (some ((-2 : Int32), (0 : Int32), M_seed, M_trial)) else (lp_X7_drawn_24  (0 : Int32) M_plan M_page p1 1000 M_seed M_trial (0 : Int32) (0 : Int32)))
set_option maxHeartbeats 4000000 in
set_option maxRecDepth 100000 in
theorem c_X7_drawn (l : Launch) (D : va_G) (cI cC cZ : ClassId) (a_M a_M_text a_M_plan a_M_read a_M_readPage a_M_page a_M_trial a_M_book a_M_kept a_M_isKept a_M_seenPoint a_M_seenSum a_M_seenWas : Nat) (sz : Nat) (M_thrown : Int32) (M_textSize : Int32) (M_place : Int32) (M_doings : Int32) (M_seen : Int32) (M_seed : Int64) (M_bestSet : Int32) (M_text : Nat → Int32) (M_plan : Nat → Int32) (M_read : Nat → Int32) (M_readPage : Nat → Int32) (M_page : Nat → Int32) (M_trial : Nat → Int32) (M_book : Nat → Int32) (M_kept : Nat → Int32) (M_isKept : Nat → Int32) (M_seenPoint : Nat → Int32) (M_seenSum : Nat → Int32) (M_seenWas : Nat → Int32) (p1 : Int32) (rr : Int32) (u_M_thrown : Int32) (u_M_seed : Int64) (u_M_trial : Nat → Int32) (hf : f_X7_drawn M_thrown M_seed M_plan M_page M_trial p1 = some (rr, u_M_thrown, u_M_seed, u_M_trial)) : kMet l yX7_drawn cX7_drawn 6 (some .int) rm_X7_drawn D (kTY cI cC cZ) [.ref a_M, .int p1] (WD16 cI cC cZ a_M a_M_text a_M_plan a_M_read a_M_readPage a_M_page a_M_trial a_M_book a_M_kept a_M_isKept a_M_seenPoint a_M_seenSum a_M_seenWas M_thrown M_textSize M_place M_doings M_seen M_seed M_bestSet M_text M_plan M_read M_readPage M_page M_trial M_book M_kept M_isKept M_seenPoint M_seenSum M_seenWas) sz (kQI D (kTY cI cC cZ) (va_A (WD16 cI cC cZ a_M a_M_text a_M_plan a_M_read a_M_readPage a_M_page a_M_trial a_M_book a_M_kept a_M_isKept a_M_seenPoint a_M_seenSum a_M_seenWas M_thrown M_textSize M_place M_doings M_seen M_seed M_bestSet M_text M_plan M_read M_readPage M_page M_trial M_book M_kept M_isKept M_seenPoint M_seenSum M_seenWas) sz) rr (WD16 cI cC cZ a_M a_M_text a_M_plan a_M_read a_M_readPage a_M_page a_M_trial a_M_book a_M_kept a_M_isKept a_M_seenPoint a_M_seenSum a_M_seenWas u_M_thrown M_textSize M_place M_doings M_seen u_M_seed M_bestSet M_text M_plan M_read M_readPage M_page u_M_trial M_book M_kept M_isKept M_seenPoint M_seenSum M_seenWas)) := by
  refine kEnter (lv := [(0, .ref a_M), (1, .int p1)]) (own := RX7) (by decide) rfl (Nat.le_of_ble_eq_true rfl) rfl ?_
  intro p e s m below meth c hsz C0 hP hD hS ls hl
  generalize (va_A (WD16 cI cC cZ a_M a_M_text a_M_plan a_M_read a_M_readPage a_M_page a_M_trial a_M_book a_M_kept a_M_isKept a_M_seenPoint a_M_seenSum a_M_seenWas M_thrown M_textSize M_place M_doings M_seen M_seed M_bestSet M_text M_plan M_read M_readPage M_page M_trial M_book M_kept M_isKept M_seenPoint M_seenSum M_seenWas) sz) = A at C0 hD hS ⊢
  clear hsz hS
  obtain ⟨H, hHs⟩ : ∃ H : Heap, H = s.heap := ⟨_, rfl⟩
  have hS : va_S A s.heap H [] := by rw [hHs]; exact va_S.rf
  rw [← hHs] at hP ⊢
  obtain ⟨hx, hb, hr, hml, hown, hts, hK, hN, hA, hlocks, hF⟩ := id C0
  have h := hf
  unfold f_X7_drawn at h
  refine lv_aload_n hx hb dX7_drawn_0 rfl (lv_at hl 0 rfl) ?_
  refine lv_iconst (v := (0 : Int32)) hx hb dX7_drawn_1 (by decide) ?_
  refine va_put (D := D) (ci := 7) (v := .int (0 : Int32)) (ty := .int) (C := RX7) (T := TX7) (N := 19) hx hb hts inlX7 tyX7 tyX7_ok nmX7 hown hK hP hD hS 0 rfl rfl 0 (by decide) (hts _ kw_109) (fun _ h9 => h9) rfl (by decide +kernel) rfl rfl (Nat.le_of_ble_eq_true rfl) dX7_drawn_2 (fun H locs hP hD hS => ?_)
  have hP : va_P D vwCl (WD16 cI cC cZ a_M a_M_text a_M_plan a_M_read a_M_readPage a_M_page a_M_trial a_M_book a_M_kept a_M_isKept a_M_seenPoint a_M_seenSum a_M_seenWas (0 : Int32) M_textSize M_place M_doings M_seen M_seed M_bestSet M_text M_plan M_read M_readPage M_page M_trial M_book M_kept M_isKept M_seenPoint M_seenSum M_seenWas) H := hP
  have hD : va_D A (WD16 cI cC cZ a_M a_M_text a_M_plan a_M_read a_M_readPage a_M_page a_M_trial a_M_book a_M_kept a_M_isKept a_M_seenPoint a_M_seenSum a_M_seenWas (0 : Int32) M_textSize M_place M_doings M_seen M_seed M_bestSet M_text M_plan M_read M_readPage M_page M_trial M_book M_kept M_isKept M_seenPoint M_seenSum M_seenWas) := hD
  refine lv_iload_n hx hb dX7_drawn_5 rfl (lv_at hl 1 rfl) ?_
  refine lv_i2l hx hb dX7_drawn_6 rfl ?_
  refine lv_lconst (v := (1 : Int64)) hx hb dX7_drawn_7 (by decide) ?_
  refine lv_ldc2 (v := (20 : Int64)) hx hb hown (hts _ kw_778) dX7_drawn_8 ?_
  obtain ⟨r2, hc1, h⟩ := oc_bind h
  refine kro_i (wc := (WD0 cI cC cZ)) C0 hP hD hS [] rfl (kS (n := 3) (As := [.long (Int32.toInt64 p1), .long (1 : Int64), .long (20 : Int64)]) (rest := []) (wc := (WD0 cI cC cZ)) C0 hP hD hS [] rfl (by decide) (c_X7_in l D cI cC cZ  H.size  (Int32.toInt64 p1) (1 : Int64) (20 : Int64) r2 hc1) kw_114 kw_112 kw_113 kw_5 (by decide +kernel) (by decide) rfl hl.1 rfl (Nat.le_of_ble_eq_true rfl) ⟨Nat.zero_le _, Nat.zero_le _⟩ dX7_drawn_11) (fun H locs hP hS => ?_)
  refine lv_if_ne (tgt := 20) hx hb dX7_drawn_14 (by decide) (fun c3 => ?_) (fun c3 => ?_)
  · have h := oc_f c3 h
    refine lv_iconst (v := (0 : Int32)) hx hb dX7_drawn_20 (by decide) ?_
    refine lv_istore_n (lv' := [(2, .int (0 : Int32)), (0, .ref a_M), (1, .int p1)]) hx hb dX7_drawn_21 rfl hl (by decide) rfl (fun ls hl => ?_)
    refine lv_iconst (v := (0 : Int32)) hx hb dX7_drawn_22 (by decide) ?_
    refine lv_istore_n (lv' := [(3, .int (0 : Int32)), (2, .int (0 : Int32)), (0, .ref a_M), (1, .int p1)]) hx hb dX7_drawn_23 rfl hl (by decide) rfl (fun ls hl => ?_)
    exact wl_X7_drawn_24 C0  _ _ _ _ _ h _ _ hP hD hS _ (lv_sub hl [2, 3, 1, 0] rfl)
  · have h := oc_t c3 h
    refine lv_bipush (v := (-2 : Int32)) hx hb dX7_drawn_17 (by decide) ?_
    cases h
    exact kret_i C0 hP hD hS rfl dX7_drawn_19
abbrev rm_X7_keep : Room := { frames := 1, cells := 0, slots := 0, locals := 25 }
noncomputable def bk_X7_keep_55  (M_thrown : Int32) (M_page : Nat → Int32) (M_kept : Nat → Int32) (M_isKept : Nat → Int32) : Option (Int32 × Int32 × (Nat → Int32) × (Nat → Int32)) := (f_X7_ones (M_page (Int32.toNatClampNeg (0 : Int32)))).bind (fun r2 => some (r2, M_thrown, M_kept, M_isKept))
set_option maxHeartbeats 4000000 in
set_option maxRecDepth 100000 in
theorem wk_X7_keep_55 {p : Program} {l : Launch} {e : Env} {s : State} {m : MethodId} {args : Array Value} {below : List Frame} {meth : Method} {c : Code} {D : va_G} {cI cC cZ : ClassId} {A : Nat → Prop} {a_M a_M_text a_M_plan a_M_read a_M_readPage a_M_page a_M_trial a_M_book a_M_kept a_M_isKept a_M_seenPoint a_M_seenSum a_M_seenWas : Nat} {M_thrown : Int32} {M_textSize : Int32} {M_place : Int32} {M_doings : Int32} {M_seen : Int32} {M_seed : Int64} {M_bestSet : Int32} {M_text : Nat → Int32} {M_plan : Nat → Int32} {M_read : Nat → Int32} {M_readPage : Nat → Int32} {M_page : Nat → Int32} {M_trial : Nat → Int32} {M_book : Nat → Int32} {M_kept : Nat → Int32} {M_isKept : Nat → Int32} {M_seenPoint : Nat → Int32} {M_seenSum : Nat → Int32} {M_seenWas : Nat → Int32}  {rr : Int32} {u_M_thrown : Int32} {u_M_kept : Nat → Int32} {u_M_isKept : Nat → Int32} (C0 : kC p s m args meth c D (kTY cI cC cZ) cX7_keep (some .int) 3 RX7 A)  (h : bk_X7_keep_55  M_thrown M_page M_kept M_isKept = some (rr, u_M_thrown, u_M_kept, u_M_isKept)) {H : Heap} {locs : List Loc} (hP : va_P D vwCl (WD16 cI cC cZ a_M a_M_text a_M_plan a_M_read a_M_readPage a_M_page a_M_trial a_M_book a_M_kept a_M_isKept a_M_seenPoint a_M_seenSum a_M_seenWas M_thrown M_textSize M_place M_doings M_seen M_seed M_bestSet M_text M_plan M_read M_readPage M_page M_trial M_book M_kept M_isKept M_seenPoint M_seenSum M_seenWas) H) (hD : va_D A (WD16 cI cC cZ a_M a_M_text a_M_plan a_M_read a_M_readPage a_M_page a_M_trial a_M_book a_M_kept a_M_isKept a_M_seenPoint a_M_seenSum a_M_seenWas M_thrown M_textSize M_place M_doings M_seen M_seed M_bestSet M_text M_plan M_read M_readPage M_page M_trial M_book M_kept M_isKept M_seenPoint M_seenSum M_seenWas)) (hS : va_S A s.heap H locs) {ls : Array Slot} (hl : lv_has ls 3 [(0, .ref a_M)]) : W p l e rm_X7_keep s m args below meth c H locs 0 0 (MQ below (kQI D (kTY cI cC cZ) A rr (WD16 cI cC cZ a_M a_M_text a_M_plan a_M_read a_M_readPage a_M_page a_M_trial a_M_book a_M_kept a_M_isKept a_M_seenPoint a_M_seenSum a_M_seenWas u_M_thrown M_textSize M_place M_doings M_seen M_seed M_bestSet M_text M_plan M_read M_readPage M_page M_trial M_book u_M_kept u_M_isKept M_seenPoint M_seenSum M_seenWas)) args s 0 0 A) (F0 m 55 ls []) := by
  obtain ⟨hx, hb, hr, hml, hown, hts, hK, hN, hA, hlocks, hF⟩ := id C0
  unfold bk_X7_keep_55 at h
  refine lv_aload_n hx hb dX7_keep_55 rfl (lv_at hl 0 rfl) ?_
  refine va_get (D := D) (ci := 7) (v := .ref a_M_page) (C := RX7) (T := TX7) (N := 19) hx hb hts inlX7 hown hK hP 0 rfl rfl 7 (by decide) (hts _ kw_88) (fun _ h9 => h9) rfl dX7_keep_56 ?_
  refine lv_iconst (v := (0 : Int32)) hx hb dX7_keep_59 (by decide) ?_
  refine va_iald hx hb hK hP 5 0 rfl rfl (show ¬ ((0 : Int32) < 0 ∨ 9 ≤ Int32.toNatClampNeg (0 : Int32)) by decide) dX7_keep_60 ?_
  obtain ⟨r2, hc1, h⟩ := oc_bind h
  refine kro_i (wc := (WD0 cI cC cZ)) C0 hP hD hS [] rfl (kS (n := 1) (As := [.int (M_page (Int32.toNatClampNeg (0 : Int32)))]) (rest := []) (wc := (WD0 cI cC cZ)) C0 hP hD hS [] rfl (by decide) (c_X7_ones l D cI cC cZ  H.size  (M_page (Int32.toNatClampNeg (0 : Int32))) r2 hc1) kw_464 kw_462 kw_463 kw_5 (by decide +kernel) (by decide) rfl hl.1 rfl (Nat.le_of_ble_eq_true rfl) ⟨Nat.zero_le _, Nat.zero_le _⟩ dX7_keep_61) (fun H locs hP hS => ?_)
  cases h
  exact kret_i C0 hP hD hS rfl dX7_keep_64
noncomputable def bk_X7_keep_26 (k26 : (Nat → Int32) → Int32 → Option (Int32 × Int32 × (Nat → Int32) × (Nat → Int32))) (M_thrown : Int32) (M_page : Nat → Int32) (M_isKept : Nat → Int32) (p1 : Int32) (M_kept : Nat → Int32) (p2 : Int32) : Option (Int32 × Int32 × (Nat → Int32) × (Nat → Int32)) := if (9 : Int32) ≤ p2 then (bk_X7_keep_55  M_thrown M_page M_kept M_isKept) else (if (p2 < 0 ∨ 9 ≤ Int32.toNatClampNeg p2) then none else (if ((((9 : Int32) * p1) + p2) < 0 ∨ 18 ≤ Int32.toNatClampNeg (((9 : Int32) * p1) + p2)) then none else (nm_ (p2 + (1 : Int32)) (fun t4 => k26 (upd M_kept (Int32.toNatClampNeg (((9 : Int32) * p1) + p2)) (M_page (Int32.toNatClampNeg p2))) t4))))
set_option maxHeartbeats 4000000 in
set_option maxRecDepth 100000 in
theorem wk_X7_keep_26 {p : Program} {l : Launch} {e : Env} {s : State} {m : MethodId} {args : Array Value} {below : List Frame} {meth : Method} {c : Code} {D : va_G} {cI cC cZ : ClassId} {A : Nat → Prop} {a_M a_M_text a_M_plan a_M_read a_M_readPage a_M_page a_M_trial a_M_book a_M_kept a_M_isKept a_M_seenPoint a_M_seenSum a_M_seenWas : Nat} {M_thrown : Int32} {M_textSize : Int32} {M_place : Int32} {M_doings : Int32} {M_seen : Int32} {M_seed : Int64} {M_bestSet : Int32} {M_text : Nat → Int32} {M_plan : Nat → Int32} {M_read : Nat → Int32} {M_readPage : Nat → Int32} {M_page : Nat → Int32} {M_trial : Nat → Int32} {M_book : Nat → Int32} {M_kept : Nat → Int32} {M_isKept : Nat → Int32} {M_seenPoint : Nat → Int32} {M_seenSum : Nat → Int32} {M_seenWas : Nat → Int32} {p1 : Int32} {p2 : Int32} {k26 : (Nat → Int32) → Int32 → Option (Int32 × Int32 × (Nat → Int32) × (Nat → Int32))} {rr : Int32} {u_M_thrown : Int32} {u_M_kept : Nat → Int32} {u_M_isKept : Nat → Int32} (C0 : kC p s m args meth c D (kTY cI cC cZ) cX7_keep (some .int) 3 RX7 A) (hk26 : ∀ (M_kept_k : Nat → Int32) (p2_k : Int32), k26 M_kept_k p2_k = some (rr, u_M_thrown, u_M_kept, u_M_isKept) → ∀ (H : Heap) (locs : List Loc), va_P D vwCl (WD16 cI cC cZ a_M a_M_text a_M_plan a_M_read a_M_readPage a_M_page a_M_trial a_M_book a_M_kept a_M_isKept a_M_seenPoint a_M_seenSum a_M_seenWas M_thrown M_textSize M_place M_doings M_seen M_seed M_bestSet M_text M_plan M_read M_readPage M_page M_trial M_book M_kept_k M_isKept M_seenPoint M_seenSum M_seenWas) H → va_D A (WD16 cI cC cZ a_M a_M_text a_M_plan a_M_read a_M_readPage a_M_page a_M_trial a_M_book a_M_kept a_M_isKept a_M_seenPoint a_M_seenSum a_M_seenWas M_thrown M_textSize M_place M_doings M_seen M_seed M_bestSet M_text M_plan M_read M_readPage M_page M_trial M_book M_kept_k M_isKept M_seenPoint M_seenSum M_seenWas) → va_S A s.heap H locs → ∀ ls : Array Slot, lv_has ls 3 [(0, .ref a_M), (1, .int p1), (2, .int p2_k)] → W p l e rm_X7_keep s m args below meth c H locs 0 0 (MQ below (kQI D (kTY cI cC cZ) A rr (WD16 cI cC cZ a_M a_M_text a_M_plan a_M_read a_M_readPage a_M_page a_M_trial a_M_book a_M_kept a_M_isKept a_M_seenPoint a_M_seenSum a_M_seenWas u_M_thrown M_textSize M_place M_doings M_seen M_seed M_bestSet M_text M_plan M_read M_readPage M_page M_trial M_book u_M_kept u_M_isKept M_seenPoint M_seenSum M_seenWas)) args s 0 0 A) (F0 m 26 ls [])) (h : bk_X7_keep_26 k26 M_thrown M_page M_isKept p1 M_kept p2 = some (rr, u_M_thrown, u_M_kept, u_M_isKept)) {H : Heap} {locs : List Loc} (hP : va_P D vwCl (WD16 cI cC cZ a_M a_M_text a_M_plan a_M_read a_M_readPage a_M_page a_M_trial a_M_book a_M_kept a_M_isKept a_M_seenPoint a_M_seenSum a_M_seenWas M_thrown M_textSize M_place M_doings M_seen M_seed M_bestSet M_text M_plan M_read M_readPage M_page M_trial M_book M_kept M_isKept M_seenPoint M_seenSum M_seenWas) H) (hD : va_D A (WD16 cI cC cZ a_M a_M_text a_M_plan a_M_read a_M_readPage a_M_page a_M_trial a_M_book a_M_kept a_M_isKept a_M_seenPoint a_M_seenSum a_M_seenWas M_thrown M_textSize M_place M_doings M_seen M_seed M_bestSet M_text M_plan M_read M_readPage M_page M_trial M_book M_kept M_isKept M_seenPoint M_seenSum M_seenWas)) (hS : va_S A s.heap H locs) {ls : Array Slot} (hl : lv_has ls 3 [(0, .ref a_M), (1, .int p1), (2, .int p2)]) : W p l e rm_X7_keep s m args below meth c H locs 0 0 (MQ below (kQI D (kTY cI cC cZ) A rr (WD16 cI cC cZ a_M a_M_text a_M_plan a_M_read a_M_readPage a_M_page a_M_trial a_M_book a_M_kept a_M_isKept a_M_seenPoint a_M_seenSum a_M_seenWas u_M_thrown M_textSize M_place M_doings M_seen M_seed M_bestSet M_text M_plan M_read M_readPage M_page M_trial M_book u_M_kept u_M_isKept M_seenPoint M_seenSum M_seenWas)) args s 0 0 A) (F0 m 26 ls []) := by
  obtain ⟨hx, hb, hr, hml, hown, hts, hK, hN, hA, hlocks, hF⟩ := id C0
  unfold bk_X7_keep_26 at h
  refine lv_iload_n hx hb dX7_keep_26 rfl (lv_at hl 2 rfl) ?_
  refine lv_bipush (v := (9 : Int32)) hx hb dX7_keep_27 (by decide) ?_
  refine lv_icmp_ge (tgt := 55) hx hb dX7_keep_29 (by decide) (fun c1 => ?_) (fun c1 => ?_)
  · have h := oc_t c1 h
    exact wk_X7_keep_55 C0  h hP hD hS (lv_sub hl [0] rfl)
  · have h := oc_f c1 h
    refine lv_aload_n hx hb dX7_keep_32 rfl (lv_at hl 0 rfl) ?_
    refine va_get (D := D) (ci := 7) (v := .ref a_M_kept) (C := RX7) (T := TX7) (N := 19) hx hb hts inlX7 hown hK hP 0 rfl rfl 11 (by decide) (hts _ kw_91) (fun _ h9 => h9) rfl dX7_keep_33 ?_
    refine lv_bipush (v := (9 : Int32)) hx hb dX7_keep_36 (by decide) ?_
    refine lv_iload_n hx hb dX7_keep_38 rfl (lv_at hl 1 rfl) ?_
    refine lv_imul hx hb dX7_keep_39 ?_
    refine lv_iload_n hx hb dX7_keep_40 rfl (lv_at hl 2 rfl) ?_
    refine lv_iadd hx hb dX7_keep_41 ?_
    refine lv_aload_n hx hb dX7_keep_42 rfl (lv_at hl 0 rfl) ?_
    refine va_get (D := D) (ci := 7) (v := .ref a_M_page) (C := RX7) (T := TX7) (N := 19) hx hb hts inlX7 hown hK hP 0 rfl rfl 7 (by decide) (hts _ kw_88) (fun _ h9 => h9) rfl dX7_keep_43 ?_
    refine lv_iload_n hx hb dX7_keep_46 rfl (lv_at hl 2 rfl) ?_
    obtain ⟨hb2, h⟩ := oc_else h
    refine va_iald hx hb hK hP 5 0 rfl rfl hb2 dX7_keep_47 ?_
    obtain ⟨hb3, h⟩ := oc_else h
    refine va_iast hx hb hK hP hD hS 8 0 rfl rfl hb3 dX7_keep_48 (fun H locs hP hD hS => ?_)
    have hP : va_P D vwCl (WD16 cI cC cZ a_M a_M_text a_M_plan a_M_read a_M_readPage a_M_page a_M_trial a_M_book a_M_kept a_M_isKept a_M_seenPoint a_M_seenSum a_M_seenWas M_thrown M_textSize M_place M_doings M_seen M_seed M_bestSet M_text M_plan M_read M_readPage M_page M_trial M_book (upd M_kept (Int32.toNatClampNeg (((9 : Int32) * p1) + p2)) (M_page (Int32.toNatClampNeg p2))) M_isKept M_seenPoint M_seenSum M_seenWas) H := hP
    have hD : va_D A (WD16 cI cC cZ a_M a_M_text a_M_plan a_M_read a_M_readPage a_M_page a_M_trial a_M_book a_M_kept a_M_isKept a_M_seenPoint a_M_seenSum a_M_seenWas M_thrown M_textSize M_place M_doings M_seen M_seed M_bestSet M_text M_plan M_read M_readPage M_page M_trial M_book (upd M_kept (Int32.toNatClampNeg (((9 : Int32) * p1) + p2)) (M_page (Int32.toNatClampNeg p2))) M_isKept M_seenPoint M_seenSum M_seenWas) := hD
    obtain ⟨t4, e_t4⟩ : ∃ y : Int32, y = p2 + (1 : Int32) := ⟨_, rfl⟩
    have h := oc_nm e_t4 h
    refine lv_iinc (v := t4) (lv' := [(2, .int t4), (0, .ref a_M), (1, .int p1)]) hx hb dX7_keep_49 hl (k := 2) rfl (by rw [e_t4]; rfl) (by decide) rfl (fun ls hl => ?_)
    refine lv_goto (tgt := 26) hx hb dX7_keep_52 (by decide) ?_
    exact hk26 _ _ h _ _ hP hD hS _ (lv_sub hl [1, 2, 0] rfl)
noncomputable def lp_X7_keep_26  (M_thrown : Int32) (M_page : Nat → Int32) (M_isKept : Nat → Int32) (p1 : Int32) (n : Nat) : (Nat → Int32) → Int32 → Option (Int32 × Int32 × (Nat → Int32) × (Nat → Int32)) := Nat.rec (motive := fun _ => (Nat → Int32) → Int32 → Option (Int32 × Int32 × (Nat → Int32) × (Nat → Int32))) (fun _ _ => none) (fun _ ih => bk_X7_keep_26  ih M_thrown M_page M_isKept p1) n
set_option maxHeartbeats 4000000 in
set_option maxRecDepth 100000 in
theorem wl_X7_keep_26 {p : Program} {l : Launch} {e : Env} {s : State} {m : MethodId} {args : Array Value} {below : List Frame} {meth : Method} {c : Code} {D : va_G} {cI cC cZ : ClassId} {A : Nat → Prop} {a_M a_M_text a_M_plan a_M_read a_M_readPage a_M_page a_M_trial a_M_book a_M_kept a_M_isKept a_M_seenPoint a_M_seenSum a_M_seenWas : Nat} {M_thrown : Int32} {M_textSize : Int32} {M_place : Int32} {M_doings : Int32} {M_seen : Int32} {M_seed : Int64} {M_bestSet : Int32} {M_text : Nat → Int32} {M_plan : Nat → Int32} {M_read : Nat → Int32} {M_readPage : Nat → Int32} {M_page : Nat → Int32} {M_trial : Nat → Int32} {M_book : Nat → Int32} {M_isKept : Nat → Int32} {M_seenPoint : Nat → Int32} {M_seenSum : Nat → Int32} {M_seenWas : Nat → Int32} {p1 : Int32}  {rr : Int32} {u_M_thrown : Int32} {u_M_kept : Nat → Int32} {u_M_isKept : Nat → Int32} (C0 : kC p s m args meth c D (kTY cI cC cZ) cX7_keep (some .int) 3 RX7 A)  : ∀ (n : Nat) (M_kept : Nat → Int32) (p2 : Int32), lp_X7_keep_26  M_thrown M_page M_isKept p1 n M_kept p2 = some (rr, u_M_thrown, u_M_kept, u_M_isKept) → ∀ (H : Heap) (locs : List Loc), va_P D vwCl (WD16 cI cC cZ a_M a_M_text a_M_plan a_M_read a_M_readPage a_M_page a_M_trial a_M_book a_M_kept a_M_isKept a_M_seenPoint a_M_seenSum a_M_seenWas M_thrown M_textSize M_place M_doings M_seen M_seed M_bestSet M_text M_plan M_read M_readPage M_page M_trial M_book M_kept M_isKept M_seenPoint M_seenSum M_seenWas) H → va_D A (WD16 cI cC cZ a_M a_M_text a_M_plan a_M_read a_M_readPage a_M_page a_M_trial a_M_book a_M_kept a_M_isKept a_M_seenPoint a_M_seenSum a_M_seenWas M_thrown M_textSize M_place M_doings M_seen M_seed M_bestSet M_text M_plan M_read M_readPage M_page M_trial M_book M_kept M_isKept M_seenPoint M_seenSum M_seenWas) → va_S A s.heap H locs → ∀ ls : Array Slot, lv_has ls 3 [(0, .ref a_M), (1, .int p1), (2, .int p2)] → W p l e rm_X7_keep s m args below meth c H locs 0 0 (MQ below (kQI D (kTY cI cC cZ) A rr (WD16 cI cC cZ a_M a_M_text a_M_plan a_M_read a_M_readPage a_M_page a_M_trial a_M_book a_M_kept a_M_isKept a_M_seenPoint a_M_seenSum a_M_seenWas u_M_thrown M_textSize M_place M_doings M_seen M_seed M_bestSet M_text M_plan M_read M_readPage M_page M_trial M_book u_M_kept u_M_isKept M_seenPoint M_seenSum M_seenWas)) args s 0 0 A) (F0 m 26 ls []) := by
  intro n
  induction n with
  | zero => intro M_kept p2 h; cases (show (none : Option (Int32 × Int32 × (Nat → Int32) × (Nat → Int32))) = some _ from h)
  | succ n ih =>
    intro M_kept p2 h H locs hP hD hS ls hl
    exact wk_X7_keep_26 C0  (fun M_kept p2 h H locs hP hD hS ls hl => ih M_kept p2 h H locs hP hD hS ls hl) (show bk_X7_keep_26  (lp_X7_keep_26  M_thrown M_page M_isKept p1 n) M_thrown M_page M_isKept p1 M_kept p2 = some _ from h) hP hD hS hl
noncomputable def f_X7_keep (M_thrown : Int32) (M_page : Nat → Int32) (M_kept : Nat → Int32) (M_isKept : Nat → Int32) (p1 : Int32) : Option (Int32 × Int32 × (Nat → Int32) × (Nat → Int32)) := (f_X7_in (Int32.toInt64 p1) (0 : Int64) (1 : Int64)).bind (fun r2 => if r2 = 0 then (some ((-1 : Int32), (0 : Int32), M_kept, M_isKept)) else (if (p1 < 0 ∨ 2 ≤ Int32.toNatClampNeg p1) then none else (lp_X7_keep_26  (0 : Int32) M_page (upd M_isKept (Int32.toNatClampNeg p1) (vp_nar .boolean (1 : Int32))) p1 1000 M_kept (0 : Int32))))
set_option maxHeartbeats 4000000 in
set_option maxRecDepth 100000 in
theorem c_X7_keep (l : Launch) (D : va_G) (cI cC cZ : ClassId) (a_M a_M_text a_M_plan a_M_read a_M_readPage a_M_page a_M_trial a_M_book a_M_kept a_M_isKept a_M_seenPoint a_M_seenSum a_M_seenWas : Nat) (sz : Nat) (M_thrown : Int32) (M_textSize : Int32) (M_place : Int32) (M_doings : Int32) (M_seen : Int32) (M_seed : Int64) (M_bestSet : Int32) (M_text : Nat → Int32) (M_plan : Nat → Int32) (M_read : Nat → Int32) (M_readPage : Nat → Int32) (M_page : Nat → Int32) (M_trial : Nat → Int32) (M_book : Nat → Int32) (M_kept : Nat → Int32) (M_isKept : Nat → Int32) (M_seenPoint : Nat → Int32) (M_seenSum : Nat → Int32) (M_seenWas : Nat → Int32) (p1 : Int32) (rr : Int32) (u_M_thrown : Int32) (u_M_kept : Nat → Int32) (u_M_isKept : Nat → Int32) (hf : f_X7_keep M_thrown M_page M_kept M_isKept p1 = some (rr, u_M_thrown, u_M_kept, u_M_isKept)) : kMet l yX7_keep cX7_keep 3 (some .int) rm_X7_keep D (kTY cI cC cZ) [.ref a_M, .int p1] (WD16 cI cC cZ a_M a_M_text a_M_plan a_M_read a_M_readPage a_M_page a_M_trial a_M_book a_M_kept a_M_isKept a_M_seenPoint a_M_seenSum a_M_seenWas M_thrown M_textSize M_place M_doings M_seen M_seed M_bestSet M_text M_plan M_read M_readPage M_page M_trial M_book M_kept M_isKept M_seenPoint M_seenSum M_seenWas) sz (kQI D (kTY cI cC cZ) (va_A (WD16 cI cC cZ a_M a_M_text a_M_plan a_M_read a_M_readPage a_M_page a_M_trial a_M_book a_M_kept a_M_isKept a_M_seenPoint a_M_seenSum a_M_seenWas M_thrown M_textSize M_place M_doings M_seen M_seed M_bestSet M_text M_plan M_read M_readPage M_page M_trial M_book M_kept M_isKept M_seenPoint M_seenSum M_seenWas) sz) rr (WD16 cI cC cZ a_M a_M_text a_M_plan a_M_read a_M_readPage a_M_page a_M_trial a_M_book a_M_kept a_M_isKept a_M_seenPoint a_M_seenSum a_M_seenWas u_M_thrown M_textSize M_place M_doings M_seen M_seed M_bestSet M_text M_plan M_read M_readPage M_page M_trial M_book u_M_kept u_M_isKept M_seenPoint M_seenSum M_seenWas)) := by
  refine kEnter (lv := [(0, .ref a_M), (1, .int p1)]) (own := RX7) (by decide) rfl (Nat.le_of_ble_eq_true rfl) rfl ?_
  intro p e s m below meth c hsz C0 hP hD hS ls hl
  generalize (va_A (WD16 cI cC cZ a_M a_M_text a_M_plan a_M_read a_M_readPage a_M_page a_M_trial a_M_book a_M_kept a_M_isKept a_M_seenPoint a_M_seenSum a_M_seenWas M_thrown M_textSize M_place M_doings M_seen M_seed M_bestSet M_text M_plan M_read M_readPage M_page M_trial M_book M_kept M_isKept M_seenPoint M_seenSum M_seenWas) sz) = A at C0 hD hS ⊢
  clear hsz hS
  obtain ⟨H, hHs⟩ : ∃ H : Heap, H = s.heap := ⟨_, rfl⟩
  have hS : va_S A s.heap H [] := by rw [hHs]; exact va_S.rf
  rw [← hHs] at hP ⊢
  obtain ⟨hx, hb, hr, hml, hown, hts, hK, hN, hA, hlocks, hF⟩ := id C0
  have h := hf
  unfold f_X7_keep at h
  refine lv_aload_n hx hb dX7_keep_0 rfl (lv_at hl 0 rfl) ?_
  refine lv_iconst (v := (0 : Int32)) hx hb dX7_keep_1 (by decide) ?_
  refine va_put (D := D) (ci := 7) (v := .int (0 : Int32)) (ty := .int) (C := RX7) (T := TX7) (N := 19) hx hb hts inlX7 tyX7 tyX7_ok nmX7 hown hK hP hD hS 0 rfl rfl 0 (by decide) (hts _ kw_109) (fun _ h9 => h9) rfl (by decide +kernel) rfl rfl (Nat.le_of_ble_eq_true rfl) dX7_keep_2 (fun H locs hP hD hS => ?_)
  have hP : va_P D vwCl (WD16 cI cC cZ a_M a_M_text a_M_plan a_M_read a_M_readPage a_M_page a_M_trial a_M_book a_M_kept a_M_isKept a_M_seenPoint a_M_seenSum a_M_seenWas (0 : Int32) M_textSize M_place M_doings M_seen M_seed M_bestSet M_text M_plan M_read M_readPage M_page M_trial M_book M_kept M_isKept M_seenPoint M_seenSum M_seenWas) H := hP
  have hD : va_D A (WD16 cI cC cZ a_M a_M_text a_M_plan a_M_read a_M_readPage a_M_page a_M_trial a_M_book a_M_kept a_M_isKept a_M_seenPoint a_M_seenSum a_M_seenWas (0 : Int32) M_textSize M_place M_doings M_seen M_seed M_bestSet M_text M_plan M_read M_readPage M_page M_trial M_book M_kept M_isKept M_seenPoint M_seenSum M_seenWas) := hD
  refine lv_iload_n hx hb dX7_keep_5 rfl (lv_at hl 1 rfl) ?_
  refine lv_i2l hx hb dX7_keep_6 rfl ?_
  refine lv_lconst (v := (0 : Int64)) hx hb dX7_keep_7 (by decide) ?_
  refine lv_lconst (v := (1 : Int64)) hx hb dX7_keep_8 (by decide) ?_
  obtain ⟨r2, hc1, h⟩ := oc_bind h
  refine kro_i (wc := (WD0 cI cC cZ)) C0 hP hD hS [] rfl (kS (n := 3) (As := [.long (Int32.toInt64 p1), .long (0 : Int64), .long (1 : Int64)]) (rest := []) (wc := (WD0 cI cC cZ)) C0 hP hD hS [] rfl (by decide) (c_X7_in l D cI cC cZ  H.size  (Int32.toInt64 p1) (0 : Int64) (1 : Int64) r2 hc1) kw_114 kw_112 kw_113 kw_5 (by decide +kernel) (by decide) rfl hl.1 rfl (Nat.le_of_ble_eq_true rfl) ⟨Nat.zero_le _, Nat.zero_le _⟩ dX7_keep_9) (fun H locs hP hS => ?_)
  refine lv_if_ne (tgt := 17) hx hb dX7_keep_12 (by decide) (fun c3 => ?_) (fun c3 => ?_)
  · have h := oc_f c3 h
    refine lv_aload_n hx hb dX7_keep_17 rfl (lv_at hl 0 rfl) ?_
    refine va_get (D := D) (ci := 7) (v := .ref a_M_isKept) (C := RX7) (T := TX7) (N := 19) hx hb hts inlX7 hown hK hP 0 rfl rfl 12 (by decide) (hts _ kw_92) (fun _ h9 => h9) rfl dX7_keep_18 ?_
    refine lv_iload_n hx hb dX7_keep_21 rfl (lv_at hl 1 rfl) ?_
    refine lv_iconst (v := (1 : Int32)) hx hb dX7_keep_22 (by decide) ?_
    obtain ⟨hb4, h⟩ := oc_else h
    refine va_zast hx hb hK hP hD hS 9 2 rfl rfl hb4 dX7_keep_23 (fun H locs hP hD hS => ?_)
    have hP : va_P D vwCl (WD16 cI cC cZ a_M a_M_text a_M_plan a_M_read a_M_readPage a_M_page a_M_trial a_M_book a_M_kept a_M_isKept a_M_seenPoint a_M_seenSum a_M_seenWas (0 : Int32) M_textSize M_place M_doings M_seen M_seed M_bestSet M_text M_plan M_read M_readPage M_page M_trial M_book M_kept (upd M_isKept (Int32.toNatClampNeg p1) (vp_nar .boolean (1 : Int32))) M_seenPoint M_seenSum M_seenWas) H := hP
    have hD : va_D A (WD16 cI cC cZ a_M a_M_text a_M_plan a_M_read a_M_readPage a_M_page a_M_trial a_M_book a_M_kept a_M_isKept a_M_seenPoint a_M_seenSum a_M_seenWas (0 : Int32) M_textSize M_place M_doings M_seen M_seed M_bestSet M_text M_plan M_read M_readPage M_page M_trial M_book M_kept (upd M_isKept (Int32.toNatClampNeg p1) (vp_nar .boolean (1 : Int32))) M_seenPoint M_seenSum M_seenWas) := hD
    refine lv_iconst (v := (0 : Int32)) hx hb dX7_keep_24 (by decide) ?_
    refine lv_istore_n (lv' := [(2, .int (0 : Int32)), (0, .ref a_M), (1, .int p1)]) hx hb dX7_keep_25 rfl hl (by decide) rfl (fun ls hl => ?_)
    exact wl_X7_keep_26 C0  _ _ _ h _ _ hP hD hS _ (lv_sub hl [1, 2, 0] rfl)
  · have h := oc_t c3 h
    refine lv_iconst (v := (-1 : Int32)) hx hb dX7_keep_15 (by decide) ?_
    cases h
    exact kret_i C0 hP hD hS rfl dX7_keep_16
abbrev rm_X7_again : Room := { frames := 1, cells := 0, slots := 0, locals := 25 }
noncomputable def bk_X7_again_60  (M_thrown : Int32) (M_doings : Int32) (M_page : Nat → Int32) : Option (Int32 × Int32 × Int32 × (Nat → Int32)) := (f_X7_ones (M_page (Int32.toNatClampNeg (0 : Int32)))).bind (fun r2 => some (r2, M_thrown, (0 : Int32), M_page))
set_option maxHeartbeats 4000000 in
set_option maxRecDepth 100000 in
theorem wk_X7_again_60 {p : Program} {l : Launch} {e : Env} {s : State} {m : MethodId} {args : Array Value} {below : List Frame} {meth : Method} {c : Code} {D : va_G} {cI cC cZ : ClassId} {A : Nat → Prop} {a_M a_M_text a_M_plan a_M_read a_M_readPage a_M_page a_M_trial a_M_book a_M_kept a_M_isKept a_M_seenPoint a_M_seenSum a_M_seenWas : Nat} {M_thrown : Int32} {M_textSize : Int32} {M_place : Int32} {M_doings : Int32} {M_seen : Int32} {M_seed : Int64} {M_bestSet : Int32} {M_text : Nat → Int32} {M_plan : Nat → Int32} {M_read : Nat → Int32} {M_readPage : Nat → Int32} {M_page : Nat → Int32} {M_trial : Nat → Int32} {M_book : Nat → Int32} {M_kept : Nat → Int32} {M_isKept : Nat → Int32} {M_seenPoint : Nat → Int32} {M_seenSum : Nat → Int32} {M_seenWas : Nat → Int32}  {rr : Int32} {u_M_thrown : Int32} {u_M_doings : Int32} {u_M_page : Nat → Int32} (C0 : kC p s m args meth c D (kTY cI cC cZ) cX7_again (some .int) 3 RX7 A)  (h : bk_X7_again_60  M_thrown M_doings M_page = some (rr, u_M_thrown, u_M_doings, u_M_page)) {H : Heap} {locs : List Loc} (hP : va_P D vwCl (WD16 cI cC cZ a_M a_M_text a_M_plan a_M_read a_M_readPage a_M_page a_M_trial a_M_book a_M_kept a_M_isKept a_M_seenPoint a_M_seenSum a_M_seenWas M_thrown M_textSize M_place M_doings M_seen M_seed M_bestSet M_text M_plan M_read M_readPage M_page M_trial M_book M_kept M_isKept M_seenPoint M_seenSum M_seenWas) H) (hD : va_D A (WD16 cI cC cZ a_M a_M_text a_M_plan a_M_read a_M_readPage a_M_page a_M_trial a_M_book a_M_kept a_M_isKept a_M_seenPoint a_M_seenSum a_M_seenWas M_thrown M_textSize M_place M_doings M_seen M_seed M_bestSet M_text M_plan M_read M_readPage M_page M_trial M_book M_kept M_isKept M_seenPoint M_seenSum M_seenWas)) (hS : va_S A s.heap H locs) {ls : Array Slot} (hl : lv_has ls 3 [(0, .ref a_M)]) : W p l e rm_X7_again s m args below meth c H locs 0 0 (MQ below (kQI D (kTY cI cC cZ) A rr (WD16 cI cC cZ a_M a_M_text a_M_plan a_M_read a_M_readPage a_M_page a_M_trial a_M_book a_M_kept a_M_isKept a_M_seenPoint a_M_seenSum a_M_seenWas u_M_thrown M_textSize M_place u_M_doings M_seen M_seed M_bestSet M_text M_plan M_read M_readPage u_M_page M_trial M_book M_kept M_isKept M_seenPoint M_seenSum M_seenWas)) args s 0 0 A) (F0 m 60 ls []) := by
  obtain ⟨hx, hb, hr, hml, hown, hts, hK, hN, hA, hlocks, hF⟩ := id C0
  unfold bk_X7_again_60 at h
  refine lv_aload_n hx hb dX7_again_60 rfl (lv_at hl 0 rfl) ?_
  refine lv_iconst (v := (0 : Int32)) hx hb dX7_again_61 (by decide) ?_
  refine va_put (D := D) (ci := 7) (v := .int (0 : Int32)) (ty := .int) (C := RX7) (T := TX7) (N := 19) hx hb hts inlX7 tyX7 tyX7_ok nmX7 hown hK hP hD hS 0 rfl rfl 10 (by decide) (hts _ kw_269) (fun _ h9 => h9) rfl (by decide +kernel) rfl rfl (Nat.le_of_ble_eq_true rfl) dX7_again_62 (fun H locs hP hD hS => ?_)
  have hP : va_P D vwCl (WD16 cI cC cZ a_M a_M_text a_M_plan a_M_read a_M_readPage a_M_page a_M_trial a_M_book a_M_kept a_M_isKept a_M_seenPoint a_M_seenSum a_M_seenWas M_thrown M_textSize M_place (0 : Int32) M_seen M_seed M_bestSet M_text M_plan M_read M_readPage M_page M_trial M_book M_kept M_isKept M_seenPoint M_seenSum M_seenWas) H := hP
  have hD : va_D A (WD16 cI cC cZ a_M a_M_text a_M_plan a_M_read a_M_readPage a_M_page a_M_trial a_M_book a_M_kept a_M_isKept a_M_seenPoint a_M_seenSum a_M_seenWas M_thrown M_textSize M_place (0 : Int32) M_seen M_seed M_bestSet M_text M_plan M_read M_readPage M_page M_trial M_book M_kept M_isKept M_seenPoint M_seenSum M_seenWas) := hD
  refine lv_aload_n hx hb dX7_again_65 rfl (lv_at hl 0 rfl) ?_
  refine va_get (D := D) (ci := 7) (v := .ref a_M_page) (C := RX7) (T := TX7) (N := 19) hx hb hts inlX7 hown hK hP 0 rfl rfl 7 (by decide) (hts _ kw_88) (fun _ h9 => h9) rfl dX7_again_66 ?_
  refine lv_iconst (v := (0 : Int32)) hx hb dX7_again_69 (by decide) ?_
  refine va_iald hx hb hK hP 5 0 rfl rfl (show ¬ ((0 : Int32) < 0 ∨ 9 ≤ Int32.toNatClampNeg (0 : Int32)) by decide) dX7_again_70 ?_
  obtain ⟨r2, hc1, h⟩ := oc_bind h
  refine kro_i (wc := (WD0 cI cC cZ)) C0 hP hD hS [] rfl (kS (n := 1) (As := [.int (M_page (Int32.toNatClampNeg (0 : Int32)))]) (rest := []) (wc := (WD0 cI cC cZ)) C0 hP hD hS [] rfl (by decide) (c_X7_ones l D cI cC cZ  H.size  (M_page (Int32.toNatClampNeg (0 : Int32))) r2 hc1) kw_464 kw_462 kw_463 kw_5 (by decide +kernel) (by decide) rfl hl.1 rfl (Nat.le_of_ble_eq_true rfl) ⟨Nat.zero_le _, Nat.zero_le _⟩ dX7_again_71) (fun H locs hP hS => ?_)
  cases h
  exact kret_i C0 hP hD hS rfl dX7_again_74
noncomputable def bk_X7_again_31 (k31 : (Nat → Int32) → Int32 → Option (Int32 × Int32 × Int32 × (Nat → Int32))) (M_thrown : Int32) (M_doings : Int32) (M_kept : Nat → Int32) (p1 : Int32) (M_page : Nat → Int32) (p2 : Int32) : Option (Int32 × Int32 × Int32 × (Nat → Int32)) := if (9 : Int32) ≤ p2 then (bk_X7_again_60  M_thrown M_doings M_page) else (if ((((9 : Int32) * p1) + p2) < 0 ∨ 18 ≤ Int32.toNatClampNeg (((9 : Int32) * p1) + p2)) then none else (if (p2 < 0 ∨ 9 ≤ Int32.toNatClampNeg p2) then none else (nm_ (p2 + (1 : Int32)) (fun t4 => k31 (upd M_page (Int32.toNatClampNeg p2) (M_kept (Int32.toNatClampNeg (((9 : Int32) * p1) + p2)))) t4))))
set_option maxHeartbeats 4000000 in
set_option maxRecDepth 100000 in
theorem wk_X7_again_31 {p : Program} {l : Launch} {e : Env} {s : State} {m : MethodId} {args : Array Value} {below : List Frame} {meth : Method} {c : Code} {D : va_G} {cI cC cZ : ClassId} {A : Nat → Prop} {a_M a_M_text a_M_plan a_M_read a_M_readPage a_M_page a_M_trial a_M_book a_M_kept a_M_isKept a_M_seenPoint a_M_seenSum a_M_seenWas : Nat} {M_thrown : Int32} {M_textSize : Int32} {M_place : Int32} {M_doings : Int32} {M_seen : Int32} {M_seed : Int64} {M_bestSet : Int32} {M_text : Nat → Int32} {M_plan : Nat → Int32} {M_read : Nat → Int32} {M_readPage : Nat → Int32} {M_page : Nat → Int32} {M_trial : Nat → Int32} {M_book : Nat → Int32} {M_kept : Nat → Int32} {M_isKept : Nat → Int32} {M_seenPoint : Nat → Int32} {M_seenSum : Nat → Int32} {M_seenWas : Nat → Int32} {p1 : Int32} {p2 : Int32} {k31 : (Nat → Int32) → Int32 → Option (Int32 × Int32 × Int32 × (Nat → Int32))} {rr : Int32} {u_M_thrown : Int32} {u_M_doings : Int32} {u_M_page : Nat → Int32} (C0 : kC p s m args meth c D (kTY cI cC cZ) cX7_again (some .int) 3 RX7 A) (hk31 : ∀ (M_page_k : Nat → Int32) (p2_k : Int32), k31 M_page_k p2_k = some (rr, u_M_thrown, u_M_doings, u_M_page) → ∀ (H : Heap) (locs : List Loc), va_P D vwCl (WD16 cI cC cZ a_M a_M_text a_M_plan a_M_read a_M_readPage a_M_page a_M_trial a_M_book a_M_kept a_M_isKept a_M_seenPoint a_M_seenSum a_M_seenWas M_thrown M_textSize M_place M_doings M_seen M_seed M_bestSet M_text M_plan M_read M_readPage M_page_k M_trial M_book M_kept M_isKept M_seenPoint M_seenSum M_seenWas) H → va_D A (WD16 cI cC cZ a_M a_M_text a_M_plan a_M_read a_M_readPage a_M_page a_M_trial a_M_book a_M_kept a_M_isKept a_M_seenPoint a_M_seenSum a_M_seenWas M_thrown M_textSize M_place M_doings M_seen M_seed M_bestSet M_text M_plan M_read M_readPage M_page_k M_trial M_book M_kept M_isKept M_seenPoint M_seenSum M_seenWas) → va_S A s.heap H locs → ∀ ls : Array Slot, lv_has ls 3 [(0, .ref a_M), (1, .int p1), (2, .int p2_k)] → W p l e rm_X7_again s m args below meth c H locs 0 0 (MQ below (kQI D (kTY cI cC cZ) A rr (WD16 cI cC cZ a_M a_M_text a_M_plan a_M_read a_M_readPage a_M_page a_M_trial a_M_book a_M_kept a_M_isKept a_M_seenPoint a_M_seenSum a_M_seenWas u_M_thrown M_textSize M_place u_M_doings M_seen M_seed M_bestSet M_text M_plan M_read M_readPage u_M_page M_trial M_book M_kept M_isKept M_seenPoint M_seenSum M_seenWas)) args s 0 0 A) (F0 m 31 ls [])) (h : bk_X7_again_31 k31 M_thrown M_doings M_kept p1 M_page p2 = some (rr, u_M_thrown, u_M_doings, u_M_page)) {H : Heap} {locs : List Loc} (hP : va_P D vwCl (WD16 cI cC cZ a_M a_M_text a_M_plan a_M_read a_M_readPage a_M_page a_M_trial a_M_book a_M_kept a_M_isKept a_M_seenPoint a_M_seenSum a_M_seenWas M_thrown M_textSize M_place M_doings M_seen M_seed M_bestSet M_text M_plan M_read M_readPage M_page M_trial M_book M_kept M_isKept M_seenPoint M_seenSum M_seenWas) H) (hD : va_D A (WD16 cI cC cZ a_M a_M_text a_M_plan a_M_read a_M_readPage a_M_page a_M_trial a_M_book a_M_kept a_M_isKept a_M_seenPoint a_M_seenSum a_M_seenWas M_thrown M_textSize M_place M_doings M_seen M_seed M_bestSet M_text M_plan M_read M_readPage M_page M_trial M_book M_kept M_isKept M_seenPoint M_seenSum M_seenWas)) (hS : va_S A s.heap H locs) {ls : Array Slot} (hl : lv_has ls 3 [(0, .ref a_M), (1, .int p1), (2, .int p2)]) : W p l e rm_X7_again s m args below meth c H locs 0 0 (MQ below (kQI D (kTY cI cC cZ) A rr (WD16 cI cC cZ a_M a_M_text a_M_plan a_M_read a_M_readPage a_M_page a_M_trial a_M_book a_M_kept a_M_isKept a_M_seenPoint a_M_seenSum a_M_seenWas u_M_thrown M_textSize M_place u_M_doings M_seen M_seed M_bestSet M_text M_plan M_read M_readPage u_M_page M_trial M_book M_kept M_isKept M_seenPoint M_seenSum M_seenWas)) args s 0 0 A) (F0 m 31 ls []) := by
  obtain ⟨hx, hb, hr, hml, hown, hts, hK, hN, hA, hlocks, hF⟩ := id C0
  unfold bk_X7_again_31 at h
  refine lv_iload_n hx hb dX7_again_31 rfl (lv_at hl 2 rfl) ?_
  refine lv_bipush (v := (9 : Int32)) hx hb dX7_again_32 (by decide) ?_
  refine lv_icmp_ge (tgt := 60) hx hb dX7_again_34 (by decide) (fun c1 => ?_) (fun c1 => ?_)
  · have h := oc_t c1 h
    exact wk_X7_again_60 C0  h hP hD hS (lv_sub hl [0] rfl)
  · have h := oc_f c1 h
    refine lv_aload_n hx hb dX7_again_37 rfl (lv_at hl 0 rfl) ?_
    refine va_get (D := D) (ci := 7) (v := .ref a_M_page) (C := RX7) (T := TX7) (N := 19) hx hb hts inlX7 hown hK hP 0 rfl rfl 7 (by decide) (hts _ kw_88) (fun _ h9 => h9) rfl dX7_again_38 ?_
    refine lv_iload_n hx hb dX7_again_41 rfl (lv_at hl 2 rfl) ?_
    refine lv_aload_n hx hb dX7_again_42 rfl (lv_at hl 0 rfl) ?_
    refine va_get (D := D) (ci := 7) (v := .ref a_M_kept) (C := RX7) (T := TX7) (N := 19) hx hb hts inlX7 hown hK hP 0 rfl rfl 11 (by decide) (hts _ kw_91) (fun _ h9 => h9) rfl dX7_again_43 ?_
    refine lv_bipush (v := (9 : Int32)) hx hb dX7_again_46 (by decide) ?_
    refine lv_iload_n hx hb dX7_again_48 rfl (lv_at hl 1 rfl) ?_
    refine lv_imul hx hb dX7_again_49 ?_
    refine lv_iload_n hx hb dX7_again_50 rfl (lv_at hl 2 rfl) ?_
    refine lv_iadd hx hb dX7_again_51 ?_
    obtain ⟨hb2, h⟩ := oc_else h
    refine va_iald hx hb hK hP 8 0 rfl rfl hb2 dX7_again_52 ?_
    obtain ⟨hb3, h⟩ := oc_else h
    refine va_iast hx hb hK hP hD hS 5 0 rfl rfl hb3 dX7_again_53 (fun H locs hP hD hS => ?_)
    have hP : va_P D vwCl (WD16 cI cC cZ a_M a_M_text a_M_plan a_M_read a_M_readPage a_M_page a_M_trial a_M_book a_M_kept a_M_isKept a_M_seenPoint a_M_seenSum a_M_seenWas M_thrown M_textSize M_place M_doings M_seen M_seed M_bestSet M_text M_plan M_read M_readPage (upd M_page (Int32.toNatClampNeg p2) (M_kept (Int32.toNatClampNeg (((9 : Int32) * p1) + p2)))) M_trial M_book M_kept M_isKept M_seenPoint M_seenSum M_seenWas) H := hP
    have hD : va_D A (WD16 cI cC cZ a_M a_M_text a_M_plan a_M_read a_M_readPage a_M_page a_M_trial a_M_book a_M_kept a_M_isKept a_M_seenPoint a_M_seenSum a_M_seenWas M_thrown M_textSize M_place M_doings M_seen M_seed M_bestSet M_text M_plan M_read M_readPage (upd M_page (Int32.toNatClampNeg p2) (M_kept (Int32.toNatClampNeg (((9 : Int32) * p1) + p2)))) M_trial M_book M_kept M_isKept M_seenPoint M_seenSum M_seenWas) := hD
    obtain ⟨t4, e_t4⟩ : ∃ y : Int32, y = p2 + (1 : Int32) := ⟨_, rfl⟩
    have h := oc_nm e_t4 h
    refine lv_iinc (v := t4) (lv' := [(2, .int t4), (0, .ref a_M), (1, .int p1)]) hx hb dX7_again_54 hl (k := 2) rfl (by rw [e_t4]; rfl) (by decide) rfl (fun ls hl => ?_)
    refine lv_goto (tgt := 31) hx hb dX7_again_57 (by decide) ?_
    exact hk31 _ _ h _ _ hP hD hS _ (lv_sub hl [1, 2, 0] rfl)
noncomputable def lp_X7_again_31  (M_thrown : Int32) (M_doings : Int32) (M_kept : Nat → Int32) (p1 : Int32) (n : Nat) : (Nat → Int32) → Int32 → Option (Int32 × Int32 × Int32 × (Nat → Int32)) := Nat.rec (motive := fun _ => (Nat → Int32) → Int32 → Option (Int32 × Int32 × Int32 × (Nat → Int32))) (fun _ _ => none) (fun _ ih => bk_X7_again_31  ih M_thrown M_doings M_kept p1) n
set_option maxHeartbeats 4000000 in
set_option maxRecDepth 100000 in
theorem wl_X7_again_31 {p : Program} {l : Launch} {e : Env} {s : State} {m : MethodId} {args : Array Value} {below : List Frame} {meth : Method} {c : Code} {D : va_G} {cI cC cZ : ClassId} {A : Nat → Prop} {a_M a_M_text a_M_plan a_M_read a_M_readPage a_M_page a_M_trial a_M_book a_M_kept a_M_isKept a_M_seenPoint a_M_seenSum a_M_seenWas : Nat} {M_thrown : Int32} {M_textSize : Int32} {M_place : Int32} {M_doings : Int32} {M_seen : Int32} {M_seed : Int64} {M_bestSet : Int32} {M_text : Nat → Int32} {M_plan : Nat → Int32} {M_read : Nat → Int32} {M_readPage : Nat → Int32} {M_trial : Nat → Int32} {M_book : Nat → Int32} {M_kept : Nat → Int32} {M_isKept : Nat → Int32} {M_seenPoint : Nat → Int32} {M_seenSum : Nat → Int32} {M_seenWas : Nat → Int32} {p1 : Int32}  {rr : Int32} {u_M_thrown : Int32} {u_M_doings : Int32} {u_M_page : Nat → Int32} (C0 : kC p s m args meth c D (kTY cI cC cZ) cX7_again (some .int) 3 RX7 A)  : ∀ (n : Nat) (M_page : Nat → Int32) (p2 : Int32), lp_X7_again_31  M_thrown M_doings M_kept p1 n M_page p2 = some (rr, u_M_thrown, u_M_doings, u_M_page) → ∀ (H : Heap) (locs : List Loc), va_P D vwCl (WD16 cI cC cZ a_M a_M_text a_M_plan a_M_read a_M_readPage a_M_page a_M_trial a_M_book a_M_kept a_M_isKept a_M_seenPoint a_M_seenSum a_M_seenWas M_thrown M_textSize M_place M_doings M_seen M_seed M_bestSet M_text M_plan M_read M_readPage M_page M_trial M_book M_kept M_isKept M_seenPoint M_seenSum M_seenWas) H → va_D A (WD16 cI cC cZ a_M a_M_text a_M_plan a_M_read a_M_readPage a_M_page a_M_trial a_M_book a_M_kept a_M_isKept a_M_seenPoint a_M_seenSum a_M_seenWas M_thrown M_textSize M_place M_doings M_seen M_seed M_bestSet M_text M_plan M_read M_readPage M_page M_trial M_book M_kept M_isKept M_seenPoint M_seenSum M_seenWas) → va_S A s.heap H locs → ∀ ls : Array Slot, lv_has ls 3 [(0, .ref a_M), (1, .int p1), (2, .int p2)] → W p l e rm_X7_again s m args below meth c H locs 0 0 (MQ below (kQI D (kTY cI cC cZ) A rr (WD16 cI cC cZ a_M a_M_text a_M_plan a_M_read a_M_readPage a_M_page a_M_trial a_M_book a_M_kept a_M_isKept a_M_seenPoint a_M_seenSum a_M_seenWas u_M_thrown M_textSize M_place u_M_doings M_seen M_seed M_bestSet M_text M_plan M_read M_readPage u_M_page M_trial M_book M_kept M_isKept M_seenPoint M_seenSum M_seenWas)) args s 0 0 A) (F0 m 31 ls []) := by
  intro n
  induction n with
  | zero => intro M_page p2 h; cases (show (none : Option (Int32 × Int32 × Int32 × (Nat → Int32))) = some _ from h)
  | succ n ih =>
    intro M_page p2 h H locs hP hD hS ls hl
    exact wk_X7_again_31 C0  (fun M_page p2 h H locs hP hD hS ls hl => ih M_page p2 h H locs hP hD hS ls hl) (show bk_X7_again_31  (lp_X7_again_31  M_thrown M_doings M_kept p1 n) M_thrown M_doings M_kept p1 M_page p2 = some _ from h) hP hD hS hl
noncomputable def f_X7_again (M_thrown : Int32) (M_doings : Int32) (M_page : Nat → Int32) (M_kept : Nat → Int32) (M_isKept : Nat → Int32) (p1 : Int32) : Option (Int32 × Int32 × Int32 × (Nat → Int32)) := (f_X7_in (Int32.toInt64 p1) (0 : Int64) (1 : Int64)).bind (fun r2 => if r2 = 0 then (some ((-1 : Int32), (0 : Int32), M_doings, M_page)) else (if (p1 < 0 ∨ 2 ≤ Int32.toNatClampNeg p1) then none else (if (M_isKept (Int32.toNatClampNeg p1)) = 0 then (some ((-3 : Int32), (0 : Int32), M_doings, M_page)) else (lp_X7_again_31  (0 : Int32) M_doings M_kept p1 1000 M_page (0 : Int32)))))
set_option maxHeartbeats 4000000 in
set_option maxRecDepth 100000 in
theorem c_X7_again (l : Launch) (D : va_G) (cI cC cZ : ClassId) (a_M a_M_text a_M_plan a_M_read a_M_readPage a_M_page a_M_trial a_M_book a_M_kept a_M_isKept a_M_seenPoint a_M_seenSum a_M_seenWas : Nat) (sz : Nat) (M_thrown : Int32) (M_textSize : Int32) (M_place : Int32) (M_doings : Int32) (M_seen : Int32) (M_seed : Int64) (M_bestSet : Int32) (M_text : Nat → Int32) (M_plan : Nat → Int32) (M_read : Nat → Int32) (M_readPage : Nat → Int32) (M_page : Nat → Int32) (M_trial : Nat → Int32) (M_book : Nat → Int32) (M_kept : Nat → Int32) (M_isKept : Nat → Int32) (M_seenPoint : Nat → Int32) (M_seenSum : Nat → Int32) (M_seenWas : Nat → Int32) (p1 : Int32) (rr : Int32) (u_M_thrown : Int32) (u_M_doings : Int32) (u_M_page : Nat → Int32) (hf : f_X7_again M_thrown M_doings M_page M_kept M_isKept p1 = some (rr, u_M_thrown, u_M_doings, u_M_page)) : kMet l yX7_again cX7_again 3 (some .int) rm_X7_again D (kTY cI cC cZ) [.ref a_M, .int p1] (WD16 cI cC cZ a_M a_M_text a_M_plan a_M_read a_M_readPage a_M_page a_M_trial a_M_book a_M_kept a_M_isKept a_M_seenPoint a_M_seenSum a_M_seenWas M_thrown M_textSize M_place M_doings M_seen M_seed M_bestSet M_text M_plan M_read M_readPage M_page M_trial M_book M_kept M_isKept M_seenPoint M_seenSum M_seenWas) sz (kQI D (kTY cI cC cZ) (va_A (WD16 cI cC cZ a_M a_M_text a_M_plan a_M_read a_M_readPage a_M_page a_M_trial a_M_book a_M_kept a_M_isKept a_M_seenPoint a_M_seenSum a_M_seenWas M_thrown M_textSize M_place M_doings M_seen M_seed M_bestSet M_text M_plan M_read M_readPage M_page M_trial M_book M_kept M_isKept M_seenPoint M_seenSum M_seenWas) sz) rr (WD16 cI cC cZ a_M a_M_text a_M_plan a_M_read a_M_readPage a_M_page a_M_trial a_M_book a_M_kept a_M_isKept a_M_seenPoint a_M_seenSum a_M_seenWas u_M_thrown M_textSize M_place u_M_doings M_seen M_seed M_bestSet M_text M_plan M_read M_readPage u_M_page M_trial M_book M_kept M_isKept M_seenPoint M_seenSum M_seenWas)) := by
  refine kEnter (lv := [(0, .ref a_M), (1, .int p1)]) (own := RX7) (by decide) rfl (Nat.le_of_ble_eq_true rfl) rfl ?_
  intro p e s m below meth c hsz C0 hP hD hS ls hl
  generalize (va_A (WD16 cI cC cZ a_M a_M_text a_M_plan a_M_read a_M_readPage a_M_page a_M_trial a_M_book a_M_kept a_M_isKept a_M_seenPoint a_M_seenSum a_M_seenWas M_thrown M_textSize M_place M_doings M_seen M_seed M_bestSet M_text M_plan M_read M_readPage M_page M_trial M_book M_kept M_isKept M_seenPoint M_seenSum M_seenWas) sz) = A at C0 hD hS ⊢
  clear hsz hS
  obtain ⟨H, hHs⟩ : ∃ H : Heap, H = s.heap := ⟨_, rfl⟩
  have hS : va_S A s.heap H [] := by rw [hHs]; exact va_S.rf
  rw [← hHs] at hP ⊢
  obtain ⟨hx, hb, hr, hml, hown, hts, hK, hN, hA, hlocks, hF⟩ := id C0
  have h := hf
  unfold f_X7_again at h
  refine lv_aload_n hx hb dX7_again_0 rfl (lv_at hl 0 rfl) ?_
  refine lv_iconst (v := (0 : Int32)) hx hb dX7_again_1 (by decide) ?_
  refine va_put (D := D) (ci := 7) (v := .int (0 : Int32)) (ty := .int) (C := RX7) (T := TX7) (N := 19) hx hb hts inlX7 tyX7 tyX7_ok nmX7 hown hK hP hD hS 0 rfl rfl 0 (by decide) (hts _ kw_109) (fun _ h9 => h9) rfl (by decide +kernel) rfl rfl (Nat.le_of_ble_eq_true rfl) dX7_again_2 (fun H locs hP hD hS => ?_)
  have hP : va_P D vwCl (WD16 cI cC cZ a_M a_M_text a_M_plan a_M_read a_M_readPage a_M_page a_M_trial a_M_book a_M_kept a_M_isKept a_M_seenPoint a_M_seenSum a_M_seenWas (0 : Int32) M_textSize M_place M_doings M_seen M_seed M_bestSet M_text M_plan M_read M_readPage M_page M_trial M_book M_kept M_isKept M_seenPoint M_seenSum M_seenWas) H := hP
  have hD : va_D A (WD16 cI cC cZ a_M a_M_text a_M_plan a_M_read a_M_readPage a_M_page a_M_trial a_M_book a_M_kept a_M_isKept a_M_seenPoint a_M_seenSum a_M_seenWas (0 : Int32) M_textSize M_place M_doings M_seen M_seed M_bestSet M_text M_plan M_read M_readPage M_page M_trial M_book M_kept M_isKept M_seenPoint M_seenSum M_seenWas) := hD
  refine lv_iload_n hx hb dX7_again_5 rfl (lv_at hl 1 rfl) ?_
  refine lv_i2l hx hb dX7_again_6 rfl ?_
  refine lv_lconst (v := (0 : Int64)) hx hb dX7_again_7 (by decide) ?_
  refine lv_lconst (v := (1 : Int64)) hx hb dX7_again_8 (by decide) ?_
  obtain ⟨r2, hc1, h⟩ := oc_bind h
  refine kro_i (wc := (WD0 cI cC cZ)) C0 hP hD hS [] rfl (kS (n := 3) (As := [.long (Int32.toInt64 p1), .long (0 : Int64), .long (1 : Int64)]) (rest := []) (wc := (WD0 cI cC cZ)) C0 hP hD hS [] rfl (by decide) (c_X7_in l D cI cC cZ  H.size  (Int32.toInt64 p1) (0 : Int64) (1 : Int64) r2 hc1) kw_114 kw_112 kw_113 kw_5 (by decide +kernel) (by decide) rfl hl.1 rfl (Nat.le_of_ble_eq_true rfl) ⟨Nat.zero_le _, Nat.zero_le _⟩ dX7_again_9) (fun H locs hP hS => ?_)
  refine lv_if_ne (tgt := 17) hx hb dX7_again_12 (by decide) (fun c3 => ?_) (fun c3 => ?_)
  · have h := oc_f c3 h
    refine lv_aload_n hx hb dX7_again_17 rfl (lv_at hl 0 rfl) ?_
    refine va_get (D := D) (ci := 7) (v := .ref a_M_isKept) (C := RX7) (T := TX7) (N := 19) hx hb hts inlX7 hown hK hP 0 rfl rfl 12 (by decide) (hts _ kw_92) (fun _ h9 => h9) rfl dX7_again_18 ?_
    refine lv_iload_n hx hb dX7_again_21 rfl (lv_at hl 1 rfl) ?_
    obtain ⟨hb4, h⟩ := oc_else h
    refine va_zald hx hb hK hP 9 2 rfl rfl hb4 dX7_again_22 ?_
    refine lv_if_ne (tgt := 29) hx hb dX7_again_23 (by decide) (fun c5 => ?_) (fun c5 => ?_)
    · have h := oc_f c5 h
      refine lv_iconst (v := (0 : Int32)) hx hb dX7_again_29 (by decide) ?_
      refine lv_istore_n (lv' := [(2, .int (0 : Int32)), (0, .ref a_M), (1, .int p1)]) hx hb dX7_again_30 rfl hl (by decide) rfl (fun ls hl => ?_)
      exact wl_X7_again_31 C0  _ _ _ h _ _ hP hD hS _ (lv_sub hl [1, 2, 0] rfl)
    · have h := oc_t c5 h
      refine lv_bipush (v := (-3 : Int32)) hx hb dX7_again_26 (by decide) ?_
      cases h
      exact kret_i C0 hP hD hS rfl dX7_again_28
  · have h := oc_t c3 h
    refine lv_iconst (v := (-1 : Int32)) hx hb dX7_again_15 (by decide) ?_
    cases h
    exact kret_i C0 hP hD hS rfl dX7_again_16
abbrev rm_X7_count : Room := { frames := 8, cells := 0, slots := 0, locals := 206 }
noncomputable def f_X7_count (M_thrown : Int32) (M_textSize : Int32) (M_doings : Int32) (M_seen : Int32) (M_plan : Nat → Int32) (M_page : Nat → Int32) (p1 : Int32) : Option (Int32 × Int32) := if p1 = (0 : Int32) then (some (M_textSize, (0 : Int32))) else (if p1 = (1 : Int32) then ((f_X7_spots M_plan).bind (fun r4 => some (r4, (0 : Int32)))) else (if p1 = (2 : Int32) then ((f_X7_points M_plan).bind (fun r7 => some (r7, (0 : Int32)))) else (if p1 = (3 : Int32) then ((f_X7_walls M_plan).bind (fun r10 => some (r10, (0 : Int32)))) else (if p1 = (4 : Int32) then (some ((M_plan (Int32.toNatClampNeg (10 : Int32))), (0 : Int32))) else (if p1 = (5 : Int32) then (some ((M_page (Int32.toNatClampNeg (0 : Int32))), (0 : Int32))) else (if p1 = (6 : Int32) then (some ((M_page (Int32.toNatClampNeg (1 : Int32))), (0 : Int32))) else (if p1 = (7 : Int32) then (some ((M_page (Int32.toNatClampNeg (2 : Int32))), (0 : Int32))) else (if p1 = (8 : Int32) then ((f_X7_live M_page).bind (fun r17 => (f_X7_servedBy_page M_plan M_page r17 (M_page (Int32.toNatClampNeg (2 : Int32)))).bind (fun r19 => some (r19, (0 : Int32))))) else (if p1 = (9 : Int32) then (some (M_doings, (0 : Int32))) else (if p1 = (10 : Int32) then (some (M_seen, (0 : Int32))) else (some ((-2 : Int32), (0 : Int32)))))))))))))
set_option maxHeartbeats 4000000 in
set_option maxRecDepth 100000 in
theorem c_X7_count (l : Launch) (D : va_G) (cI cC cZ : ClassId) (a_M a_M_text a_M_plan a_M_read a_M_readPage a_M_page a_M_trial a_M_book a_M_kept a_M_isKept a_M_seenPoint a_M_seenSum a_M_seenWas : Nat) (sz : Nat) (M_thrown : Int32) (M_textSize : Int32) (M_place : Int32) (M_doings : Int32) (M_seen : Int32) (M_seed : Int64) (M_bestSet : Int32) (M_text : Nat → Int32) (M_plan : Nat → Int32) (M_read : Nat → Int32) (M_readPage : Nat → Int32) (M_page : Nat → Int32) (M_trial : Nat → Int32) (M_book : Nat → Int32) (M_kept : Nat → Int32) (M_isKept : Nat → Int32) (M_seenPoint : Nat → Int32) (M_seenSum : Nat → Int32) (M_seenWas : Nat → Int32) (p1 : Int32) (rr : Int32) (u_M_thrown : Int32) (hf : f_X7_count M_thrown M_textSize M_doings M_seen M_plan M_page p1 = some (rr, u_M_thrown)) : kMet l yX7_count cX7_count 2 (some .int) rm_X7_count D (kTY cI cC cZ) [.ref a_M, .int p1] (WD16 cI cC cZ a_M a_M_text a_M_plan a_M_read a_M_readPage a_M_page a_M_trial a_M_book a_M_kept a_M_isKept a_M_seenPoint a_M_seenSum a_M_seenWas M_thrown M_textSize M_place M_doings M_seen M_seed M_bestSet M_text M_plan M_read M_readPage M_page M_trial M_book M_kept M_isKept M_seenPoint M_seenSum M_seenWas) sz (kQI D (kTY cI cC cZ) (va_A (WD16 cI cC cZ a_M a_M_text a_M_plan a_M_read a_M_readPage a_M_page a_M_trial a_M_book a_M_kept a_M_isKept a_M_seenPoint a_M_seenSum a_M_seenWas M_thrown M_textSize M_place M_doings M_seen M_seed M_bestSet M_text M_plan M_read M_readPage M_page M_trial M_book M_kept M_isKept M_seenPoint M_seenSum M_seenWas) sz) rr (WD16 cI cC cZ a_M a_M_text a_M_plan a_M_read a_M_readPage a_M_page a_M_trial a_M_book a_M_kept a_M_isKept a_M_seenPoint a_M_seenSum a_M_seenWas u_M_thrown M_textSize M_place M_doings M_seen M_seed M_bestSet M_text M_plan M_read M_readPage M_page M_trial M_book M_kept M_isKept M_seenPoint M_seenSum M_seenWas)) := by
  refine kEnter (lv := [(0, .ref a_M), (1, .int p1)]) (own := RX7) (by decide) rfl (Nat.le_of_ble_eq_true rfl) rfl ?_
  intro p e s m below meth c hsz C0 hP hD hS ls hl
  generalize (va_A (WD16 cI cC cZ a_M a_M_text a_M_plan a_M_read a_M_readPage a_M_page a_M_trial a_M_book a_M_kept a_M_isKept a_M_seenPoint a_M_seenSum a_M_seenWas M_thrown M_textSize M_place M_doings M_seen M_seed M_bestSet M_text M_plan M_read M_readPage M_page M_trial M_book M_kept M_isKept M_seenPoint M_seenSum M_seenWas) sz) = A at C0 hD hS ⊢
  clear hsz hS
  obtain ⟨H, hHs⟩ : ∃ H : Heap, H = s.heap := ⟨_, rfl⟩
  have hS : va_S A s.heap H [] := by rw [hHs]; exact va_S.rf
  rw [← hHs] at hP ⊢
  obtain ⟨hx, hb, hr, hml, hown, hts, hK, hN, hA, hlocks, hF⟩ := id C0
  have h := hf
  unfold f_X7_count at h
  refine lv_aload_n hx hb dX7_count_0 rfl (lv_at hl 0 rfl) ?_
  refine lv_iconst (v := (0 : Int32)) hx hb dX7_count_1 (by decide) ?_
  refine va_put (D := D) (ci := 7) (v := .int (0 : Int32)) (ty := .int) (C := RX7) (T := TX7) (N := 19) hx hb hts inlX7 tyX7 tyX7_ok nmX7 hown hK hP hD hS 0 rfl rfl 0 (by decide) (hts _ kw_109) (fun _ h9 => h9) rfl (by decide +kernel) rfl rfl (Nat.le_of_ble_eq_true rfl) dX7_count_2 (fun H locs hP hD hS => ?_)
  have hP : va_P D vwCl (WD16 cI cC cZ a_M a_M_text a_M_plan a_M_read a_M_readPage a_M_page a_M_trial a_M_book a_M_kept a_M_isKept a_M_seenPoint a_M_seenSum a_M_seenWas (0 : Int32) M_textSize M_place M_doings M_seen M_seed M_bestSet M_text M_plan M_read M_readPage M_page M_trial M_book M_kept M_isKept M_seenPoint M_seenSum M_seenWas) H := hP
  have hD : va_D A (WD16 cI cC cZ a_M a_M_text a_M_plan a_M_read a_M_readPage a_M_page a_M_trial a_M_book a_M_kept a_M_isKept a_M_seenPoint a_M_seenSum a_M_seenWas (0 : Int32) M_textSize M_place M_doings M_seen M_seed M_bestSet M_text M_plan M_read M_readPage M_page M_trial M_book M_kept M_isKept M_seenPoint M_seenSum M_seenWas) := hD
  refine lv_iload_n hx hb dX7_count_5 rfl (lv_at hl 1 rfl) ?_
  by_cases c1 : p1 = (0 : Int32)
  · have h := oc_t c1 h
    refine lv_tableIn (tgt := 64) (off := 58) hx hb dX7_count_6 (by rw [c1]; decide) (by rw [c1]; decide) (by rw [c1]; rfl) (by decide) ?_
    refine lv_aload_n hx hb dX7_count_64 rfl (lv_at hl 0 rfl) ?_
    refine va_get (D := D) (ci := 7) (v := .int M_textSize) (C := RX7) (T := TX7) (N := 19) hx hb hts inlX7 hown hK hP 0 rfl rfl 2 (by decide) (hts _ kw_111) (fun _ h9 => h9) rfl dX7_count_65 ?_
    cases h
    exact kret_i C0 hP hD hS rfl dX7_count_68
  · have h := oc_f c1 h
    by_cases c2 : p1 = (1 : Int32)
    · have h := oc_t c2 h
      refine lv_tableIn (tgt := 69) (off := 63) hx hb dX7_count_6 (by rw [c2]; decide) (by rw [c2]; decide) (by rw [c2]; rfl) (by decide) ?_
      refine lv_aload_n hx hb dX7_count_69 rfl (lv_at hl 0 rfl) ?_
      obtain ⟨r4, hc3, h⟩ := oc_bind h
      refine kro_i (wc := (WD16 cI cC cZ a_M a_M_text a_M_plan a_M_read a_M_readPage a_M_page a_M_trial a_M_book a_M_kept a_M_isKept a_M_seenPoint a_M_seenSum a_M_seenWas (0 : Int32) M_textSize M_place M_doings M_seen M_seed M_bestSet M_text M_plan M_read M_readPage M_page M_trial M_book M_kept M_isKept M_seenPoint M_seenSum M_seenWas)) C0 hP hD hS [0, 1, 2, 3, 4, 5, 6, 7, 8, 9, 10, 11, 12] rfl (kV (n := 0) (As := []) (rest := []) (wc := (WD16 cI cC cZ a_M a_M_text a_M_plan a_M_read a_M_readPage a_M_page a_M_trial a_M_book a_M_kept a_M_isKept a_M_seenPoint a_M_seenSum a_M_seenWas (0 : Int32) M_textSize M_place M_doings M_seen M_seed M_bestSet M_text M_plan M_read M_readPage M_page M_trial M_book M_kept M_isKept M_seenPoint M_seenSum M_seenWas)) (C := RX7) C0 hP hD hS [0, 1, 2, 3, 4, 5, 6, 7, 8, 9, 10, 11, 12] rfl (by decide) (c_X7_spots l D cI cC cZ a_M a_M_text a_M_plan a_M_read a_M_readPage a_M_page a_M_trial a_M_book a_M_kept a_M_isKept a_M_seenPoint a_M_seenSum a_M_seenWas H.size (0 : Int32) M_textSize M_place M_doings M_seen M_seed M_bestSet M_text M_plan M_read M_readPage M_page M_trial M_book M_kept M_isKept M_seenPoint M_seenSum M_seenWas  r4 hc3) kw_280 kw_277 kw_278 kw_279 kw_5 (by decide +kernel) (by decide) rfl rfl rfl hl.1 rfl (Nat.le_of_ble_eq_true rfl) ⟨Nat.zero_le _, Nat.zero_le _⟩ dX7_count_70) (fun H locs hP hS => ?_)
      cases h
      exact kret_i C0 hP hD hS rfl dX7_count_73
    · have h := oc_f c2 h
      by_cases c5 : p1 = (2 : Int32)
      · have h := oc_t c5 h
        refine lv_tableIn (tgt := 74) (off := 68) hx hb dX7_count_6 (by rw [c5]; decide) (by rw [c5]; decide) (by rw [c5]; rfl) (by decide) ?_
        refine lv_aload_n hx hb dX7_count_74 rfl (lv_at hl 0 rfl) ?_
        obtain ⟨r7, hc6, h⟩ := oc_bind h
        refine kro_i (wc := (WD16 cI cC cZ a_M a_M_text a_M_plan a_M_read a_M_readPage a_M_page a_M_trial a_M_book a_M_kept a_M_isKept a_M_seenPoint a_M_seenSum a_M_seenWas (0 : Int32) M_textSize M_place M_doings M_seen M_seed M_bestSet M_text M_plan M_read M_readPage M_page M_trial M_book M_kept M_isKept M_seenPoint M_seenSum M_seenWas)) C0 hP hD hS [0, 1, 2, 3, 4, 5, 6, 7, 8, 9, 10, 11, 12] rfl (kV (n := 0) (As := []) (rest := []) (wc := (WD16 cI cC cZ a_M a_M_text a_M_plan a_M_read a_M_readPage a_M_page a_M_trial a_M_book a_M_kept a_M_isKept a_M_seenPoint a_M_seenSum a_M_seenWas (0 : Int32) M_textSize M_place M_doings M_seen M_seed M_bestSet M_text M_plan M_read M_readPage M_page M_trial M_book M_kept M_isKept M_seenPoint M_seenSum M_seenWas)) (C := RX7) C0 hP hD hS [0, 1, 2, 3, 4, 5, 6, 7, 8, 9, 10, 11, 12] rfl (by decide) (c_X7_points l D cI cC cZ a_M a_M_text a_M_plan a_M_read a_M_readPage a_M_page a_M_trial a_M_book a_M_kept a_M_isKept a_M_seenPoint a_M_seenSum a_M_seenWas H.size (0 : Int32) M_textSize M_place M_doings M_seen M_seed M_bestSet M_text M_plan M_read M_readPage M_page M_trial M_book M_kept M_isKept M_seenPoint M_seenSum M_seenWas  r7 hc6) kw_361 kw_358 kw_359 kw_360 kw_5 (by decide +kernel) (by decide) rfl rfl rfl hl.1 rfl (Nat.le_of_ble_eq_true rfl) ⟨Nat.zero_le _, Nat.zero_le _⟩ dX7_count_75) (fun H locs hP hS => ?_)
        cases h
        exact kret_i C0 hP hD hS rfl dX7_count_78
      · have h := oc_f c5 h
        by_cases c8 : p1 = (3 : Int32)
        · have h := oc_t c8 h
          refine lv_tableIn (tgt := 79) (off := 73) hx hb dX7_count_6 (by rw [c8]; decide) (by rw [c8]; decide) (by rw [c8]; rfl) (by decide) ?_
          refine lv_aload_n hx hb dX7_count_79 rfl (lv_at hl 0 rfl) ?_
          obtain ⟨r10, hc9, h⟩ := oc_bind h
          refine kro_i (wc := (WD16 cI cC cZ a_M a_M_text a_M_plan a_M_read a_M_readPage a_M_page a_M_trial a_M_book a_M_kept a_M_isKept a_M_seenPoint a_M_seenSum a_M_seenWas (0 : Int32) M_textSize M_place M_doings M_seen M_seed M_bestSet M_text M_plan M_read M_readPage M_page M_trial M_book M_kept M_isKept M_seenPoint M_seenSum M_seenWas)) C0 hP hD hS [0, 1, 2, 3, 4, 5, 6, 7, 8, 9, 10, 11, 12] rfl (kV (n := 0) (As := []) (rest := []) (wc := (WD16 cI cC cZ a_M a_M_text a_M_plan a_M_read a_M_readPage a_M_page a_M_trial a_M_book a_M_kept a_M_isKept a_M_seenPoint a_M_seenSum a_M_seenWas (0 : Int32) M_textSize M_place M_doings M_seen M_seed M_bestSet M_text M_plan M_read M_readPage M_page M_trial M_book M_kept M_isKept M_seenPoint M_seenSum M_seenWas)) (C := RX7) C0 hP hD hS [0, 1, 2, 3, 4, 5, 6, 7, 8, 9, 10, 11, 12] rfl (by decide) (c_X7_walls l D cI cC cZ a_M a_M_text a_M_plan a_M_read a_M_readPage a_M_page a_M_trial a_M_book a_M_kept a_M_isKept a_M_seenPoint a_M_seenSum a_M_seenWas H.size (0 : Int32) M_textSize M_place M_doings M_seen M_seed M_bestSet M_text M_plan M_read M_readPage M_page M_trial M_book M_kept M_isKept M_seenPoint M_seenSum M_seenWas  r10 hc9) kw_276 kw_273 kw_274 kw_275 kw_5 (by decide +kernel) (by decide) rfl rfl rfl hl.1 rfl (Nat.le_of_ble_eq_true rfl) ⟨Nat.zero_le _, Nat.zero_le _⟩ dX7_count_80) (fun H locs hP hS => ?_)
          cases h
          exact kret_i C0 hP hD hS rfl dX7_count_83
        · have h := oc_f c8 h
          by_cases c11 : p1 = (4 : Int32)
          · have h := oc_t c11 h
            refine lv_tableIn (tgt := 84) (off := 78) hx hb dX7_count_6 (by rw [c11]; decide) (by rw [c11]; decide) (by rw [c11]; rfl) (by decide) ?_
            refine lv_aload_n hx hb dX7_count_84 rfl (lv_at hl 0 rfl) ?_
            refine va_get (D := D) (ci := 7) (v := .ref a_M_plan) (C := RX7) (T := TX7) (N := 19) hx hb hts inlX7 hown hK hP 0 rfl rfl 4 (by decide) (hts _ kw_85) (fun _ h9 => h9) rfl dX7_count_85 ?_
            refine lv_bipush (v := (10 : Int32)) hx hb dX7_count_88 (by decide) ?_
            refine va_iald hx hb hK hP 2 0 rfl rfl (show ¬ ((10 : Int32) < 0 ∨ 78 ≤ Int32.toNatClampNeg (10 : Int32)) by decide) dX7_count_90 ?_
            cases h
            exact kret_i C0 hP hD hS rfl dX7_count_91
          · have h := oc_f c11 h
            by_cases c12 : p1 = (5 : Int32)
            · have h := oc_t c12 h
              refine lv_tableIn (tgt := 92) (off := 86) hx hb dX7_count_6 (by rw [c12]; decide) (by rw [c12]; decide) (by rw [c12]; rfl) (by decide) ?_
              refine lv_aload_n hx hb dX7_count_92 rfl (lv_at hl 0 rfl) ?_
              refine va_get (D := D) (ci := 7) (v := .ref a_M_page) (C := RX7) (T := TX7) (N := 19) hx hb hts inlX7 hown hK hP 0 rfl rfl 7 (by decide) (hts _ kw_88) (fun _ h9 => h9) rfl dX7_count_93 ?_
              refine lv_iconst (v := (0 : Int32)) hx hb dX7_count_96 (by decide) ?_
              refine va_iald hx hb hK hP 5 0 rfl rfl (show ¬ ((0 : Int32) < 0 ∨ 9 ≤ Int32.toNatClampNeg (0 : Int32)) by decide) dX7_count_97 ?_
              cases h
              exact kret_i C0 hP hD hS rfl dX7_count_98
            · have h := oc_f c12 h
              by_cases c13 : p1 = (6 : Int32)
              · have h := oc_t c13 h
                refine lv_tableIn (tgt := 99) (off := 93) hx hb dX7_count_6 (by rw [c13]; decide) (by rw [c13]; decide) (by rw [c13]; rfl) (by decide) ?_
                refine lv_aload_n hx hb dX7_count_99 rfl (lv_at hl 0 rfl) ?_
                refine va_get (D := D) (ci := 7) (v := .ref a_M_page) (C := RX7) (T := TX7) (N := 19) hx hb hts inlX7 hown hK hP 0 rfl rfl 7 (by decide) (hts _ kw_88) (fun _ h9 => h9) rfl dX7_count_100 ?_
                refine lv_iconst (v := (1 : Int32)) hx hb dX7_count_103 (by decide) ?_
                refine va_iald hx hb hK hP 5 0 rfl rfl (show ¬ ((1 : Int32) < 0 ∨ 9 ≤ Int32.toNatClampNeg (1 : Int32)) by decide) dX7_count_104 ?_
                cases h
                exact kret_i C0 hP hD hS rfl dX7_count_105
              · have h := oc_f c13 h
                by_cases c14 : p1 = (7 : Int32)
                · have h := oc_t c14 h
                  refine lv_tableIn (tgt := 106) (off := 100) hx hb dX7_count_6 (by rw [c14]; decide) (by rw [c14]; decide) (by rw [c14]; rfl) (by decide) ?_
                  refine lv_aload_n hx hb dX7_count_106 rfl (lv_at hl 0 rfl) ?_
                  refine va_get (D := D) (ci := 7) (v := .ref a_M_page) (C := RX7) (T := TX7) (N := 19) hx hb hts inlX7 hown hK hP 0 rfl rfl 7 (by decide) (hts _ kw_88) (fun _ h9 => h9) rfl dX7_count_107 ?_
                  refine lv_iconst (v := (2 : Int32)) hx hb dX7_count_110 (by decide) ?_
                  refine va_iald hx hb hK hP 5 0 rfl rfl (show ¬ ((2 : Int32) < 0 ∨ 9 ≤ Int32.toNatClampNeg (2 : Int32)) by decide) dX7_count_111 ?_
                  cases h
                  exact kret_i C0 hP hD hS rfl dX7_count_112
                · have h := oc_f c14 h
                  by_cases c15 : p1 = (8 : Int32)
                  · have h := oc_t c15 h
                    refine lv_tableIn (tgt := 113) (off := 107) hx hb dX7_count_6 (by rw [c15]; decide) (by rw [c15]; decide) (by rw [c15]; rfl) (by decide) ?_
                    refine lv_aload_n hx hb dX7_count_113 rfl (lv_at hl 0 rfl) ?_
                    refine lv_aload_n hx hb dX7_count_114 rfl (lv_at hl 0 rfl) ?_
                    refine va_get (D := D) (ci := 7) (v := .ref a_M_page) (C := RX7) (T := TX7) (N := 19) hx hb hts inlX7 hown hK hP 0 rfl rfl 7 (by decide) (hts _ kw_88) (fun _ h9 => h9) rfl dX7_count_115 ?_
                    refine lv_aload_n hx hb dX7_count_118 rfl (lv_at hl 0 rfl) ?_
                    refine va_get (D := D) (ci := 7) (v := .ref a_M_page) (C := RX7) (T := TX7) (N := 19) hx hb hts inlX7 hown hK hP 0 rfl rfl 7 (by decide) (hts _ kw_88) (fun _ h9 => h9) rfl dX7_count_119 ?_
                    obtain ⟨r17, hc16, h⟩ := oc_bind h
                    refine kro_i (wc := (WD17 cI cC cZ a_M_page M_page)) C0 hP hD hS [5] rfl (kS (n := 1) (As := [.ref a_M_page]) (rest := [.ref a_M_page, .ref a_M]) (wc := (WD17 cI cC cZ a_M_page M_page)) C0 hP hD hS [5] rfl (by decide) (c_X7_live l D cI cC cZ a_M_page H.size M_page  r17 hc16) kw_364 kw_362 kw_363 kw_5 (by decide +kernel) (by decide) rfl hl.1 rfl (Nat.le_of_ble_eq_true rfl) ⟨Nat.zero_le _, Nat.zero_le _⟩ dX7_count_122) (fun H locs hP hS => ?_)
                    refine lv_aload_n hx hb dX7_count_125 rfl (lv_at hl 0 rfl) ?_
                    refine va_get (D := D) (ci := 7) (v := .ref a_M_page) (C := RX7) (T := TX7) (N := 19) hx hb hts inlX7 hown hK hP 0 rfl rfl 7 (by decide) (hts _ kw_88) (fun _ h9 => h9) rfl dX7_count_126 ?_
                    refine lv_iconst (v := (2 : Int32)) hx hb dX7_count_129 (by decide) ?_
                    refine va_iald hx hb hK hP 5 0 rfl rfl (show ¬ ((2 : Int32) < 0 ∨ 9 ≤ Int32.toNatClampNeg (2 : Int32)) by decide) dX7_count_130 ?_
                    obtain ⟨r19, hc18, h⟩ := oc_bind h
                    refine kro_i (wc := (WD16 cI cC cZ a_M a_M_text a_M_plan a_M_read a_M_readPage a_M_page a_M_trial a_M_book a_M_kept a_M_isKept a_M_seenPoint a_M_seenSum a_M_seenWas (0 : Int32) M_textSize M_place M_doings M_seen M_seed M_bestSet M_text M_plan M_read M_readPage M_page M_trial M_book M_kept M_isKept M_seenPoint M_seenSum M_seenWas)) C0 hP hD hS [0, 1, 2, 3, 4, 5, 6, 7, 8, 9, 10, 11, 12] rfl (kV (n := 3) (As := [.ref a_M_page, .int r17, .int (M_page (Int32.toNatClampNeg (2 : Int32)))]) (rest := []) (wc := (WD16 cI cC cZ a_M a_M_text a_M_plan a_M_read a_M_readPage a_M_page a_M_trial a_M_book a_M_kept a_M_isKept a_M_seenPoint a_M_seenSum a_M_seenWas (0 : Int32) M_textSize M_place M_doings M_seen M_seed M_bestSet M_text M_plan M_read M_readPage M_page M_trial M_book M_kept M_isKept M_seenPoint M_seenSum M_seenWas)) (C := RX7) C0 hP hD hS [0, 1, 2, 3, 4, 5, 6, 7, 8, 9, 10, 11, 12] rfl (by decide) (c_X7_servedBy_page l D cI cC cZ a_M a_M_text a_M_plan a_M_read a_M_readPage a_M_page a_M_trial a_M_book a_M_kept a_M_isKept a_M_seenPoint a_M_seenSum a_M_seenWas H.size (0 : Int32) M_textSize M_place M_doings M_seen M_seed M_bestSet M_text M_plan M_read M_readPage M_page M_trial M_book M_kept M_isKept M_seenPoint M_seenSum M_seenWas r17 (M_page (Int32.toNatClampNeg (2 : Int32))) r19 hc18) kw_553 kw_550 kw_551 kw_552 kw_5 (by decide +kernel) (by decide) rfl rfl rfl hl.1 rfl (Nat.le_of_ble_eq_true rfl) ⟨Nat.zero_le _, Nat.zero_le _⟩ dX7_count_131) (fun H locs hP hS => ?_)
                    cases h
                    exact kret_i C0 hP hD hS rfl dX7_count_134
                  · have h := oc_f c15 h
                    by_cases c20 : p1 = (9 : Int32)
                    · have h := oc_t c20 h
                      refine lv_tableIn (tgt := 135) (off := 129) hx hb dX7_count_6 (by rw [c20]; decide) (by rw [c20]; decide) (by rw [c20]; rfl) (by decide) ?_
                      refine lv_aload_n hx hb dX7_count_135 rfl (lv_at hl 0 rfl) ?_
                      refine va_get (D := D) (ci := 7) (v := .int M_doings) (C := RX7) (T := TX7) (N := 19) hx hb hts inlX7 hown hK hP 0 rfl rfl 10 (by decide) (hts _ kw_269) (fun _ h9 => h9) rfl dX7_count_136 ?_
                      cases h
                      exact kret_i C0 hP hD hS rfl dX7_count_139
                    · have h := oc_f c20 h
                      by_cases c21 : p1 = (10 : Int32)
                      · have h := oc_t c21 h
                        refine lv_tableIn (tgt := 140) (off := 134) hx hb dX7_count_6 (by rw [c21]; decide) (by rw [c21]; decide) (by rw [c21]; rfl) (by decide) ?_
                        refine lv_aload_n hx hb dX7_count_140 rfl (lv_at hl 0 rfl) ?_
                        refine va_get (D := D) (ci := 7) (v := .int M_seen) (C := RX7) (T := TX7) (N := 19) hx hb hts inlX7 hown hK hP 0 rfl rfl 13 (by decide) (hts _ kw_682) (fun _ h9 => h9) rfl dX7_count_141 ?_
                        cases h
                        exact kret_i C0 hP hD hS rfl dX7_count_144
                      · have h := oc_f c21 h
                        refine lv_tableOut (tgt := 145) hx hb dX7_count_6 (by have n0 := lv_neT c1 (a := 0) (by decide); have n1 := lv_neT c2 (a := 1) (by decide); have n2 := lv_neT c5 (a := 2) (by decide); have n3 := lv_neT c8 (a := 3) (by decide); have n4 := lv_neT c11 (a := 4) (by decide); have n5 := lv_neT c12 (a := 5) (by decide); have n6 := lv_neT c13 (a := 6) (by decide); have n7 := lv_neT c14 (a := 7) (by decide); have n8 := lv_neT c15 (a := 8) (by decide); have n9 := lv_neT c20 (a := 9) (by decide); have n10 := lv_neT c21 (a := 10) (by decide); omega) (by decide) ?_
                        refine lv_bipush (v := (-2 : Int32)) hx hb dX7_count_145 (by decide) ?_
                        cases h
                        exact kret_i C0 hP hD hS rfl dX7_count_147
