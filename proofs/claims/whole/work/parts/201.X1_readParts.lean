abbrev WD4 (cI cC cZ : ClassId) (a_T a_T_letters a_B : Nat) (nB : Nat) (T_length : Int32) (T_letters : Nat → Int32) (B : Nat → Int32) : va_W := [(a_T, .inr (5, [.ref a_T_letters, .int T_length])), (a_T_letters, .inl (cC, 99, .inl T_letters)), (a_B, .inl (cI, nB, .inl B))]
abbrev rm_X1_readParts : Room := { frames := 2, cells := 0, slots := 0, locals := 42 }
noncomputable def bk_X1_readParts_39 (k6 : (Nat → Int32) → Int32 → Int32 → Option (Int32 × (Nat → Int32))) (k39 : (Nat → Int32) → Int32 → Option (Int32 × (Nat → Int32))) (nB : Nat) (T_length : Int32) (T_letters : Nat → Int32) (p1 : Int32) (p3 : Int32) (p4 : Int32) (B : Nat → Int32) (p5 : Int32) : Option (Int32 × (Nat → Int32)) := if (4 : Int32) ≤ p5 then (nm_ (p3 + (4 : Int32)) (fun t2 => nm_ (p4 + (5 : Int32)) (fun t3 => k6 B t2 t3))) else ((f_X5_figureAt T_length T_letters ((p4 + (1 : Int32)) + p5)).bind (fun r5 => if ((p3 + p5) < 0 ∨ nB ≤ Int32.toNatClampNeg (p3 + p5)) then none else (nm_ (p5 + (1 : Int32)) (fun t7 => k39 (upd B (Int32.toNatClampNeg (p3 + p5)) r5) t7))))
set_option maxHeartbeats 4000000 in
set_option maxRecDepth 100000 in
theorem wk_X1_readParts_39 {p : Program} {l : Launch} {e : Env} {s : State} {m : MethodId} {args : Array Value} {below : List Frame} {meth : Method} {c : Code} {D : va_G} {cI cC cZ : ClassId} {A : Nat → Prop} {a_T a_T_letters a_B : Nat} {nB : Nat} {T_length : Int32} {T_letters : Nat → Int32} {B : Nat → Int32} {p1 : Int32} {p3 : Int32} {p4 : Int32} {p5 : Int32} {k6 : (Nat → Int32) → Int32 → Int32 → Option (Int32 × (Nat → Int32))} {k39 : (Nat → Int32) → Int32 → Option (Int32 × (Nat → Int32))} {rr : Int32} {u_B : Nat → Int32} (C0 : kC p s m args meth c D (kTY cI cC cZ) cX1_readParts (some .int) 6 RX1 A) (hk6 : ∀ (B_k : Nat → Int32) (p3_k : Int32) (p4_k : Int32), k6 B_k p3_k p4_k = some (rr, u_B) → ∀ (H : Heap) (locs : List Loc), va_P D vwCl (WD4 cI cC cZ a_T a_T_letters a_B nB T_length T_letters B_k) H → va_D A (WD4 cI cC cZ a_T a_T_letters a_B nB T_length T_letters B_k) → va_S A s.heap H locs → ∀ ls : Array Slot, lv_has ls 6 [(0, .ref a_T), (1, .int p1), (2, .ref a_B), (3, .int p3_k), (4, .int p4_k)] → W p l e rm_X1_readParts s m args below meth c H locs 0 0 (MQ below (kQI D (kTY cI cC cZ) A rr (WD4 cI cC cZ a_T a_T_letters a_B nB T_length T_letters u_B)) args s 0 0 A) (F0 m 6 ls [])) (hk39 : ∀ (B_k : Nat → Int32) (p5_k : Int32), k39 B_k p5_k = some (rr, u_B) → ∀ (H : Heap) (locs : List Loc), va_P D vwCl (WD4 cI cC cZ a_T a_T_letters a_B nB T_length T_letters B_k) H → va_D A (WD4 cI cC cZ a_T a_T_letters a_B nB T_length T_letters B_k) → va_S A s.heap H locs → ∀ ls : Array Slot, lv_has ls 6 [(0, .ref a_T), (1, .int p1), (2, .ref a_B), (3, .int p3), (4, .int p4), (5, .int p5_k)] → W p l e rm_X1_readParts s m args below meth c H locs 0 0 (MQ below (kQI D (kTY cI cC cZ) A rr (WD4 cI cC cZ a_T a_T_letters a_B nB T_length T_letters u_B)) args s 0 0 A) (F0 m 39 ls [])) (h : bk_X1_readParts_39 k6 k39 nB T_length T_letters p1 p3 p4 B p5 = some (rr, u_B)) {H : Heap} {locs : List Loc} (hP : va_P D vwCl (WD4 cI cC cZ a_T a_T_letters a_B nB T_length T_letters B) H) (hD : va_D A (WD4 cI cC cZ a_T a_T_letters a_B nB T_length T_letters B)) (hS : va_S A s.heap H locs) {ls : Array Slot} (hl : lv_has ls 6 [(0, .ref a_T), (1, .int p1), (2, .ref a_B), (3, .int p3), (4, .int p4), (5, .int p5)]) : W p l e rm_X1_readParts s m args below meth c H locs 0 0 (MQ below (kQI D (kTY cI cC cZ) A rr (WD4 cI cC cZ a_T a_T_letters a_B nB T_length T_letters u_B)) args s 0 0 A) (F0 m 39 ls []) := by
  obtain ⟨hx, hb, hr, hml, hown, hts, hK, hN, hA, hlocks, hF⟩ := id C0
  unfold bk_X1_readParts_39 at h
  refine lv_iload hx hb dX1_readParts_39 (lv_at hl 5 rfl) ?_
  refine lv_iconst (v := (4 : Int32)) hx hb dX1_readParts_41 (by decide) ?_
  refine lv_icmp_ge (tgt := 68) hx hb dX1_readParts_42 (by decide) (fun c1 => ?_) (fun c1 => ?_)
  · have h := oc_t c1 h
    obtain ⟨t2, e_t2⟩ : ∃ y : Int32, y = p3 + (4 : Int32) := ⟨_, rfl⟩
    have h := oc_nm e_t2 h
    refine lv_iinc (v := t2) (lv' := [(3, .int t2), (0, .ref a_T), (1, .int p1), (2, .ref a_B), (4, .int p4), (5, .int p5)]) hx hb dX1_readParts_68 hl (k := 3) rfl (by rw [e_t2]; rfl) (by decide) rfl (fun ls hl => ?_)
    obtain ⟨t3, e_t3⟩ : ∃ y : Int32, y = p4 + (5 : Int32) := ⟨_, rfl⟩
    have h := oc_nm e_t3 h
    refine lv_iinc (v := t3) (lv' := [(4, .int t3), (3, .int t2), (0, .ref a_T), (1, .int p1), (2, .ref a_B), (5, .int p5)]) hx hb dX1_readParts_71 hl (k := 4) rfl (by rw [e_t3]; rfl) (by decide) rfl (fun ls hl => ?_)
    refine lv_goto (tgt := 6) hx hb dX1_readParts_74 (by decide) ?_
    exact hk6 _ _ _ h _ _ hP hD hS _ (lv_sub hl [2, 3, 4, 1, 0] rfl)
  · have h := oc_f c1 h
    refine lv_aload_n hx hb dX1_readParts_45 rfl (lv_at hl 2 rfl) ?_
    refine lv_iload_n hx hb dX1_readParts_46 rfl (lv_at hl 3 rfl) ?_
    refine lv_iload hx hb dX1_readParts_47 (lv_at hl 5 rfl) ?_
    refine lv_iadd hx hb dX1_readParts_49 ?_
    refine lv_aload_n hx hb dX1_readParts_50 rfl (lv_at hl 0 rfl) ?_
    refine lv_iload hx hb dX1_readParts_51 (lv_at hl 4 rfl) ?_
    refine lv_iconst (v := (1 : Int32)) hx hb dX1_readParts_53 (by decide) ?_
    refine lv_iadd hx hb dX1_readParts_54 ?_
    refine lv_iload hx hb dX1_readParts_55 (lv_at hl 5 rfl) ?_
    refine lv_iadd hx hb dX1_readParts_57 ?_
    obtain ⟨r5, hc4, h⟩ := oc_bind h
    refine kro_i (wc := (WD1 cI cC cZ a_T a_T_letters T_length T_letters)) C0 hP hD hS [0, 1] rfl (kVN (n := 1) (As := [.int ((p4 + (1 : Int32)) + p5)]) (rest := [.int (p3 + p5), .ref a_B]) (wc := (WD1 cI cC cZ a_T a_T_letters T_length T_letters)) (C := RX5) C0 hP hD hS [0, 1] rfl (by decide) (c_X5_figureAt l D cI cC cZ a_T a_T_letters H.size T_length T_letters ((p4 + (1 : Int32)) + p5) r5 hc4) kw_145 (ks_m9 hN) kw_143 kw_144 kw_15 (by decide +kernel) (by decide) rfl rfl rfl hl.1 rfl (Nat.le_of_ble_eq_true rfl) ⟨Nat.zero_le _, Nat.zero_le _⟩ dX1_readParts_58) (fun H locs hP hS => ?_)
    obtain ⟨hb6, h⟩ := oc_else h
    refine va_iast hx hb hK hP hD hS 2 0 rfl rfl hb6 dX1_readParts_61 (fun H locs hP hD hS => ?_)
    have hP : va_P D vwCl (WD4 cI cC cZ a_T a_T_letters a_B nB T_length T_letters (upd B (Int32.toNatClampNeg (p3 + p5)) r5)) H := hP
    have hD : va_D A (WD4 cI cC cZ a_T a_T_letters a_B nB T_length T_letters (upd B (Int32.toNatClampNeg (p3 + p5)) r5)) := hD
    obtain ⟨t7, e_t7⟩ : ∃ y : Int32, y = p5 + (1 : Int32) := ⟨_, rfl⟩
    have h := oc_nm e_t7 h
    refine lv_iinc (v := t7) (lv' := [(5, .int t7), (0, .ref a_T), (1, .int p1), (2, .ref a_B), (3, .int p3), (4, .int p4)]) hx hb dX1_readParts_62 hl (k := 5) rfl (by rw [e_t7]; rfl) (by decide) rfl (fun ls hl => ?_)
    refine lv_goto (tgt := 39) hx hb dX1_readParts_65 (by decide) ?_
    exact hk39 _ _ h _ _ hP hD hS _ (lv_sub hl [1, 2, 3, 4, 5, 0] rfl)
noncomputable def lp_X1_readParts_39 (k6 : (Nat → Int32) → Int32 → Int32 → Option (Int32 × (Nat → Int32))) (nB : Nat) (T_length : Int32) (T_letters : Nat → Int32) (p1 : Int32) (p3 : Int32) (p4 : Int32) (n : Nat) : (Nat → Int32) → Int32 → Option (Int32 × (Nat → Int32)) := Nat.rec (motive := fun _ => (Nat → Int32) → Int32 → Option (Int32 × (Nat → Int32))) (fun _ _ => none) (fun _ ih => bk_X1_readParts_39 k6 ih nB T_length T_letters p1 p3 p4) n
set_option maxHeartbeats 4000000 in
set_option maxRecDepth 100000 in
theorem wl_X1_readParts_39 {p : Program} {l : Launch} {e : Env} {s : State} {m : MethodId} {args : Array Value} {below : List Frame} {meth : Method} {c : Code} {D : va_G} {cI cC cZ : ClassId} {A : Nat → Prop} {a_T a_T_letters a_B : Nat} {nB : Nat} {T_length : Int32} {T_letters : Nat → Int32} {p1 : Int32} {p3 : Int32} {p4 : Int32} {k6 : (Nat → Int32) → Int32 → Int32 → Option (Int32 × (Nat → Int32))} {rr : Int32} {u_B : Nat → Int32} (C0 : kC p s m args meth c D (kTY cI cC cZ) cX1_readParts (some .int) 6 RX1 A) (hk6 : ∀ (B_k : Nat → Int32) (p3_k : Int32) (p4_k : Int32), k6 B_k p3_k p4_k = some (rr, u_B) → ∀ (H : Heap) (locs : List Loc), va_P D vwCl (WD4 cI cC cZ a_T a_T_letters a_B nB T_length T_letters B_k) H → va_D A (WD4 cI cC cZ a_T a_T_letters a_B nB T_length T_letters B_k) → va_S A s.heap H locs → ∀ ls : Array Slot, lv_has ls 6 [(0, .ref a_T), (1, .int p1), (2, .ref a_B), (3, .int p3_k), (4, .int p4_k)] → W p l e rm_X1_readParts s m args below meth c H locs 0 0 (MQ below (kQI D (kTY cI cC cZ) A rr (WD4 cI cC cZ a_T a_T_letters a_B nB T_length T_letters u_B)) args s 0 0 A) (F0 m 6 ls [])) : ∀ (n : Nat) (B : Nat → Int32) (p5 : Int32), lp_X1_readParts_39 k6 nB T_length T_letters p1 p3 p4 n B p5 = some (rr, u_B) → ∀ (H : Heap) (locs : List Loc), va_P D vwCl (WD4 cI cC cZ a_T a_T_letters a_B nB T_length T_letters B) H → va_D A (WD4 cI cC cZ a_T a_T_letters a_B nB T_length T_letters B) → va_S A s.heap H locs → ∀ ls : Array Slot, lv_has ls 6 [(0, .ref a_T), (1, .int p1), (2, .ref a_B), (3, .int p3), (4, .int p4), (5, .int p5)] → W p l e rm_X1_readParts s m args below meth c H locs 0 0 (MQ below (kQI D (kTY cI cC cZ) A rr (WD4 cI cC cZ a_T a_T_letters a_B nB T_length T_letters u_B)) args s 0 0 A) (F0 m 39 ls []) := by
  intro n
  induction n with
  | zero => intro B p5 h; cases (show (none : Option (Int32 × (Nat → Int32))) = some _ from h)
  | succ n ih =>
    intro B p5 h H locs hP hD hS ls hl
    exact wk_X1_readParts_39 C0 hk6 (fun B p5 h H locs hP hD hS ls hl => ih B p5 h H locs hP hD hS ls hl) (show bk_X1_readParts_39 k6 (lp_X1_readParts_39 k6 nB T_length T_letters p1 p3 p4 n) nB T_length T_letters p1 p3 p4 B p5 = some _ from h) hP hD hS hl
noncomputable def bk_X1_readParts_6 (k6 : (Nat → Int32) → Int32 → Int32 → Option (Int32 × (Nat → Int32))) (nB : Nat) (T_length : Int32) (T_letters : Nat → Int32) (p1 : Int32) (B : Nat → Int32) (p3 : Int32) (p4 : Int32) : Option (Int32 × (Nat → Int32)) := if T_length ≤ p4 then (some ((p3 / (4 : Int32)), B)) else ((f_X5_letterAt T_length T_letters p4).bind (fun r3 => if r3 = p1 then (if (p3 + (4 : Int32)) ≤ (Int32.ofNat nB) then (lp_X1_readParts_39 k6 nB T_length T_letters p1 p3 p4 1000 B (0 : Int32)) else (nm_ (p4 + (5 : Int32)) (fun t7 => k6 B p3 t7))) else (nm_ (p4 + (5 : Int32)) (fun t5 => k6 B p3 t5))))
set_option maxHeartbeats 4000000 in
set_option maxRecDepth 100000 in
theorem wk_X1_readParts_6 {p : Program} {l : Launch} {e : Env} {s : State} {m : MethodId} {args : Array Value} {below : List Frame} {meth : Method} {c : Code} {D : va_G} {cI cC cZ : ClassId} {A : Nat → Prop} {a_T a_T_letters a_B : Nat} {nB : Nat} {T_length : Int32} {T_letters : Nat → Int32} {B : Nat → Int32} {p1 : Int32} {p3 : Int32} {p4 : Int32} {k6 : (Nat → Int32) → Int32 → Int32 → Option (Int32 × (Nat → Int32))} {rr : Int32} {u_B : Nat → Int32} (C0 : kC p s m args meth c D (kTY cI cC cZ) cX1_readParts (some .int) 6 RX1 A) (hk6 : ∀ (B_k : Nat → Int32) (p3_k : Int32) (p4_k : Int32), k6 B_k p3_k p4_k = some (rr, u_B) → ∀ (H : Heap) (locs : List Loc), va_P D vwCl (WD4 cI cC cZ a_T a_T_letters a_B nB T_length T_letters B_k) H → va_D A (WD4 cI cC cZ a_T a_T_letters a_B nB T_length T_letters B_k) → va_S A s.heap H locs → ∀ ls : Array Slot, lv_has ls 6 [(0, .ref a_T), (1, .int p1), (2, .ref a_B), (3, .int p3_k), (4, .int p4_k)] → W p l e rm_X1_readParts s m args below meth c H locs 0 0 (MQ below (kQI D (kTY cI cC cZ) A rr (WD4 cI cC cZ a_T a_T_letters a_B nB T_length T_letters u_B)) args s 0 0 A) (F0 m 6 ls [])) (h : bk_X1_readParts_6 k6 nB T_length T_letters p1 B p3 p4 = some (rr, u_B)) {H : Heap} {locs : List Loc} (hP : va_P D vwCl (WD4 cI cC cZ a_T a_T_letters a_B nB T_length T_letters B) H) (hD : va_D A (WD4 cI cC cZ a_T a_T_letters a_B nB T_length T_letters B)) (hS : va_S A s.heap H locs) {ls : Array Slot} (hl : lv_has ls 6 [(0, .ref a_T), (1, .int p1), (2, .ref a_B), (3, .int p3), (4, .int p4)]) : W p l e rm_X1_readParts s m args below meth c H locs 0 0 (MQ below (kQI D (kTY cI cC cZ) A rr (WD4 cI cC cZ a_T a_T_letters a_B nB T_length T_letters u_B)) args s 0 0 A) (F0 m 6 ls []) := by
  obtain ⟨hx, hb, hr, hml, hown, hts, hK, hN, hA, hlocks, hF⟩ := id C0
  unfold bk_X1_readParts_6 at h
  refine lv_iload hx hb dX1_readParts_6 (lv_at hl 4 rfl) ?_
  refine lv_aload_n hx hb dX1_readParts_8 rfl (lv_at hl 0 rfl) ?_
  refine va_getN (D := D) (ci := 5) (v := .int T_length) (C := RX5) (T := TX5) (N := 2) hx hb hts inlX5 hown hK hP 0 rfl rfl 1 (by decide) (va_Nw.use rfl (ks_f1 hN)) (fun _ h9 => h9) rfl dX1_readParts_9 ?_
  refine lv_icmp_ge (tgt := 77) hx hb dX1_readParts_12 (by decide) (fun c1 => ?_) (fun c1 => ?_)
  · have h := oc_t c1 h
    refine lv_iload_n hx hb dX1_readParts_77 rfl (lv_at hl 3 rfl) ?_
    refine lv_iconst (v := (4 : Int32)) hx hb dX1_readParts_78 (by decide) ?_
    refine lv_idiv hx hb dX1_readParts_79 (by decide) ?_
    cases h
    exact kret_i C0 hP hD hS rfl dX1_readParts_80
  · have h := oc_f c1 h
    refine lv_aload_n hx hb dX1_readParts_15 rfl (lv_at hl 0 rfl) ?_
    refine lv_iload hx hb dX1_readParts_16 (lv_at hl 4 rfl) ?_
    obtain ⟨r3, hc2, h⟩ := oc_bind h
    refine kro_i (wc := (WD1 cI cC cZ a_T a_T_letters T_length T_letters)) C0 hP hD hS [0, 1] rfl (kVN (n := 1) (As := [.int p4]) (rest := []) (wc := (WD1 cI cC cZ a_T a_T_letters T_length T_letters)) (C := RX5) C0 hP hD hS [0, 1] rfl (by decide) (c_X5_letterAt l D cI cC cZ a_T a_T_letters H.size T_length T_letters p4 r3 hc2) kw_137 (ks_m10 hN) kw_135 kw_136 kw_15 (by decide +kernel) (by decide) rfl rfl rfl hl.1 rfl (Nat.le_of_ble_eq_true rfl) ⟨Nat.zero_le _, Nat.zero_le _⟩ dX1_readParts_18) (fun H locs hP hS => ?_)
    refine lv_iload_n hx hb dX1_readParts_21 rfl (lv_at hl 1 rfl) ?_
    refine lv_icmp_ne (tgt := 71) hx hb dX1_readParts_22 (by decide) (fun c4 => ?_) (fun c4 => ?_)
    · have h := oc_f c4 h
      obtain ⟨t5, e_t5⟩ : ∃ y : Int32, y = p4 + (5 : Int32) := ⟨_, rfl⟩
      have h := oc_nm e_t5 h
      refine lv_iinc (v := t5) (lv' := [(4, .int t5), (0, .ref a_T), (1, .int p1), (2, .ref a_B), (3, .int p3)]) hx hb dX1_readParts_71 hl (k := 4) rfl (by rw [e_t5]; rfl) (by decide) rfl (fun ls hl => ?_)
      refine lv_goto (tgt := 6) hx hb dX1_readParts_74 (by decide) ?_
      exact hk6 _ _ _ h _ _ hP hD hS _ (lv_sub hl [1, 2, 3, 4, 0] rfl)
    · have h := oc_t c4 h
      refine lv_iload_n hx hb dX1_readParts_25 rfl (lv_at hl 3 rfl) ?_
      refine lv_iconst (v := (4 : Int32)) hx hb dX1_readParts_26 (by decide) ?_
      refine lv_iadd hx hb dX1_readParts_27 ?_
      refine lv_aload_n hx hb dX1_readParts_28 rfl (lv_at hl 2 rfl) ?_
      refine va_alen hx hb hK hP 2 0 rfl rfl (v := Int32.ofNat nB) rfl dX1_readParts_29 ?_
      refine lv_icmp_le (tgt := 36) hx hb dX1_readParts_30 (by decide) (fun c6 => ?_) (fun c6 => ?_)
      · have h := oc_t c6 h
        refine lv_iconst (v := (0 : Int32)) hx hb dX1_readParts_36 (by decide) ?_
        refine lv_istore (lv' := [(5, .int (0 : Int32)), (0, .ref a_T), (1, .int p1), (2, .ref a_B), (3, .int p3), (4, .int p4)]) hx hb dX1_readParts_37 hl (by decide) rfl (fun ls hl => ?_)
        exact wl_X1_readParts_39 C0 hk6 _ _ _ h _ _ hP hD hS _ (lv_sub hl [1, 2, 3, 4, 5, 0] rfl)
      · have h := oc_f c6 h
        refine lv_goto (tgt := 71) hx hb dX1_readParts_33 (by decide) ?_
        obtain ⟨t7, e_t7⟩ : ∃ y : Int32, y = p4 + (5 : Int32) := ⟨_, rfl⟩
        have h := oc_nm e_t7 h
        refine lv_iinc (v := t7) (lv' := [(4, .int t7), (0, .ref a_T), (1, .int p1), (2, .ref a_B), (3, .int p3)]) hx hb dX1_readParts_71 hl (k := 4) rfl (by rw [e_t7]; rfl) (by decide) rfl (fun ls hl => ?_)
        refine lv_goto (tgt := 6) hx hb dX1_readParts_74 (by decide) ?_
        exact hk6 _ _ _ h _ _ hP hD hS _ (lv_sub hl [1, 2, 3, 4, 0] rfl)
noncomputable def lp_X1_readParts_6  (nB : Nat) (T_length : Int32) (T_letters : Nat → Int32) (p1 : Int32) (n : Nat) : (Nat → Int32) → Int32 → Int32 → Option (Int32 × (Nat → Int32)) := Nat.rec (motive := fun _ => (Nat → Int32) → Int32 → Int32 → Option (Int32 × (Nat → Int32))) (fun _ _ _ => none) (fun _ ih => bk_X1_readParts_6  ih nB T_length T_letters p1) n
set_option maxHeartbeats 4000000 in
set_option maxRecDepth 100000 in
theorem wl_X1_readParts_6 {p : Program} {l : Launch} {e : Env} {s : State} {m : MethodId} {args : Array Value} {below : List Frame} {meth : Method} {c : Code} {D : va_G} {cI cC cZ : ClassId} {A : Nat → Prop} {a_T a_T_letters a_B : Nat} {nB : Nat} {T_length : Int32} {T_letters : Nat → Int32} {p1 : Int32}  {rr : Int32} {u_B : Nat → Int32} (C0 : kC p s m args meth c D (kTY cI cC cZ) cX1_readParts (some .int) 6 RX1 A)  : ∀ (n : Nat) (B : Nat → Int32) (p3 : Int32) (p4 : Int32), lp_X1_readParts_6  nB T_length T_letters p1 n B p3 p4 = some (rr, u_B) → ∀ (H : Heap) (locs : List Loc), va_P D vwCl (WD4 cI cC cZ a_T a_T_letters a_B nB T_length T_letters B) H → va_D A (WD4 cI cC cZ a_T a_T_letters a_B nB T_length T_letters B) → va_S A s.heap H locs → ∀ ls : Array Slot, lv_has ls 6 [(0, .ref a_T), (1, .int p1), (2, .ref a_B), (3, .int p3), (4, .int p4)] → W p l e rm_X1_readParts s m args below meth c H locs 0 0 (MQ below (kQI D (kTY cI cC cZ) A rr (WD4 cI cC cZ a_T a_T_letters a_B nB T_length T_letters u_B)) args s 0 0 A) (F0 m 6 ls []) := by
  intro n
  induction n with
  | zero => intro B p3 p4 h; cases (show (none : Option (Int32 × (Nat → Int32))) = some _ from h)
  | succ n ih =>
    intro B p3 p4 h H locs hP hD hS ls hl
    exact wk_X1_readParts_6 C0  (fun B p3 p4 h H locs hP hD hS ls hl => ih B p3 p4 h H locs hP hD hS ls hl) (show bk_X1_readParts_6  (lp_X1_readParts_6  nB T_length T_letters p1 n) nB T_length T_letters p1 B p3 p4 = some _ from h) hP hD hS hl
noncomputable def f_X1_readParts (nB : Nat) (T_length : Int32) (T_letters : Nat → Int32) (B : Nat → Int32) (p1 : Int32) : Option (Int32 × (Nat → Int32)) := lp_X1_readParts_6 nB T_length T_letters p1 1000 B (0 : Int32) (12 : Int32)
set_option maxHeartbeats 4000000 in
set_option maxRecDepth 100000 in
theorem c_X1_readParts (l : Launch) (D : va_G) (cI cC cZ : ClassId) (a_T a_T_letters a_B : Nat) (nB : Nat) (sz : Nat) (T_length : Int32) (T_letters : Nat → Int32) (B : Nat → Int32) (p1 : Int32) (rr : Int32) (u_B : Nat → Int32) (hf : f_X1_readParts nB T_length T_letters B p1 = some (rr, u_B)) : kMet l yX1_readParts cX1_readParts 6 (some .int) rm_X1_readParts D (kTY cI cC cZ) [.ref a_T, .int p1, .ref a_B] (WD4 cI cC cZ a_T a_T_letters a_B nB T_length T_letters B) sz (kQI D (kTY cI cC cZ) (va_A (WD4 cI cC cZ a_T a_T_letters a_B nB T_length T_letters B) sz) rr (WD4 cI cC cZ a_T a_T_letters a_B nB T_length T_letters u_B)) := by
  refine kEnter (lv := [(0, .ref a_T), (1, .int p1), (2, .ref a_B)]) (own := RX1) (by decide) rfl (Nat.le_of_ble_eq_true rfl) rfl ?_
  intro p e s m below meth c hsz C0 hP hD hS ls hl
  generalize (va_A (WD4 cI cC cZ a_T a_T_letters a_B nB T_length T_letters B) sz) = A at C0 hD hS ⊢
  clear hsz hS
  obtain ⟨H, hHs⟩ : ∃ H : Heap, H = s.heap := ⟨_, rfl⟩
  have hS : va_S A s.heap H [] := by rw [hHs]; exact va_S.rf
  rw [← hHs] at hP ⊢
  obtain ⟨hx, hb, hr, hml, hown, hts, hK, hN, hA, hlocks, hF⟩ := id C0
  have h := hf
  unfold f_X1_readParts at h
  refine lv_iconst (v := (0 : Int32)) hx hb dX1_readParts_0 (by decide) ?_
  refine lv_istore_n (lv' := [(3, .int (0 : Int32)), (0, .ref a_T), (1, .int p1), (2, .ref a_B)]) hx hb dX1_readParts_1 rfl hl (by decide) rfl (fun ls hl => ?_)
  refine lv_bipush (v := (12 : Int32)) hx hb dX1_readParts_2 (by decide) ?_
  refine lv_istore (lv' := [(4, .int (12 : Int32)), (3, .int (0 : Int32)), (0, .ref a_T), (1, .int p1), (2, .ref a_B)]) hx hb dX1_readParts_4 hl (by decide) rfl (fun ls hl => ?_)
  exact wl_X1_readParts_6 C0  _ _ _ _ h _ _ hP hD hS _ (lv_sub hl [2, 3, 4, 1, 0] rfl)
abbrev rm_X1_lightWithoutWalls : Room := { frames := 2, cells := 0, slots := 0, locals := 45 }
noncomputable def f_X1_lightWithoutWalls (F_table : Nat → Int32) (F_spots : Nat → Int32) (F_points : Nat → Int32) (p1 : Int32) (p2 : Int32) : Option (Int32) := (f_X1_spotFigure F_spots p1 (0 : Int32)).bind (fun r2 => (f_X1_pointFigure F_points p2 (0 : Int32)).bind (fun r4 => nm_ (r2 - r4) (fun t5 => (f_X1_spotFigure F_spots p1 (1 : Int32)).bind (fun r7 => (f_X1_pointFigure F_points p2 (1 : Int32)).bind (fun r9 => nm_ (r7 - r9) (fun t10 => nm_ ((t5 * t5) + (t10 * t10)) (fun t11 => if t11 < 0 then (some (0 : Int32)) else (if t11 < (10 : Int32) then ((f_X1_spotFigure F_spots p1 (2 : Int32)).bind (fun r15 => if (t11 < 0 ∨ 10 ≤ Int32.toNatClampNeg t11) then none else (some (r15 * (F_table (Int32.toNatClampNeg t11)))))) else (some (0 : Int32))))))))))
set_option maxHeartbeats 4000000 in
set_option maxRecDepth 100000 in
theorem c_X1_lightWithoutWalls (l : Launch) (D : va_G) (cI cC cZ : ClassId) (a_F a_F_table a_F_spots a_F_points a_F_walls a_F_across a_F_bareLight : Nat) (sz : Nat) (F_glow : Int32) (F_spotCount : Int32) (F_pointCount : Int32) (F_wallCount : Int32) (F_table : Nat → Int32) (F_spots : Nat → Int32) (F_points : Nat → Int32) (F_walls : Nat → Int32) (F_across : Nat → Int32) (F_bareLight : Nat → Int32) (p1 : Int32) (p2 : Int32) (rr : Int32) (hf : f_X1_lightWithoutWalls F_table F_spots F_points p1 p2 = some rr) : kMet l yX1_lightWithoutWalls cX1_lightWithoutWalls 6 (some .int) rm_X1_lightWithoutWalls D (kTY cI cC cZ) [.ref a_F, .int p1, .int p2] (WD2 cI cC cZ a_F a_F_table a_F_spots a_F_points a_F_walls a_F_across a_F_bareLight F_glow F_spotCount F_pointCount F_wallCount F_table F_spots F_points F_walls F_across F_bareLight) sz (kQI D (kTY cI cC cZ) (va_A (WD2 cI cC cZ a_F a_F_table a_F_spots a_F_points a_F_walls a_F_across a_F_bareLight F_glow F_spotCount F_pointCount F_wallCount F_table F_spots F_points F_walls F_across F_bareLight) sz) rr (WD2 cI cC cZ a_F a_F_table a_F_spots a_F_points a_F_walls a_F_across a_F_bareLight F_glow F_spotCount F_pointCount F_wallCount F_table F_spots F_points F_walls F_across F_bareLight)) := by
  refine kEnter (lv := [(0, .ref a_F), (1, .int p1), (2, .int p2)]) (own := RX1) (by decide) rfl (Nat.le_of_ble_eq_true rfl) rfl ?_
  intro p e s m below meth c hsz C0 hP hD hS ls hl
  generalize (va_A (WD2 cI cC cZ a_F a_F_table a_F_spots a_F_points a_F_walls a_F_across a_F_bareLight F_glow F_spotCount F_pointCount F_wallCount F_table F_spots F_points F_walls F_across F_bareLight) sz) = A at C0 hD hS ⊢
  clear hsz hS
  obtain ⟨H, hHs⟩ : ∃ H : Heap, H = s.heap := ⟨_, rfl⟩
  have hS : va_S A s.heap H [] := by rw [hHs]; exact va_S.rf
  rw [← hHs] at hP ⊢
  obtain ⟨hx, hb, hr, hml, hown, hts, hK, hN, hA, hlocks, hF⟩ := id C0
  have h := hf
  unfold f_X1_lightWithoutWalls at h
  refine lv_aload_n hx hb dX1_lightWithoutWalls_0 rfl (lv_at hl 0 rfl) ?_
  refine lv_iload_n hx hb dX1_lightWithoutWalls_1 rfl (lv_at hl 1 rfl) ?_
  refine lv_iconst (v := (0 : Int32)) hx hb dX1_lightWithoutWalls_2 (by decide) ?_
  obtain ⟨r2, hc1, h⟩ := oc_bind h
  refine kro_i (wc := (WD2 cI cC cZ a_F a_F_table a_F_spots a_F_points a_F_walls a_F_across a_F_bareLight F_glow F_spotCount F_pointCount F_wallCount F_table F_spots F_points F_walls F_across F_bareLight)) C0 hP hD hS [0, 1, 2, 3, 4, 5, 6] rfl (kV (n := 2) (As := [.int p1, .int (0 : Int32)]) (rest := []) (wc := (WD2 cI cC cZ a_F a_F_table a_F_spots a_F_points a_F_walls a_F_across a_F_bareLight F_glow F_spotCount F_pointCount F_wallCount F_table F_spots F_points F_walls F_across F_bareLight)) (C := RX1) C0 hP hD hS [0, 1, 2, 3, 4, 5, 6] rfl (by decide) (c_X1_spotFigure l D cI cC cZ a_F a_F_table a_F_spots a_F_points a_F_walls a_F_across a_F_bareLight H.size F_glow F_spotCount F_pointCount F_wallCount F_table F_spots F_points F_walls F_across F_bareLight p1 (0 : Int32) r2 hc1) kw_224 kw_221 kw_222 kw_223 kw_19 (by decide +kernel) (by decide) rfl rfl rfl hl.1 rfl (Nat.le_of_ble_eq_true rfl) ⟨Nat.zero_le _, Nat.zero_le _⟩ dX1_lightWithoutWalls_3) (fun H locs hP hS => ?_)
  refine lv_aload_n hx hb dX1_lightWithoutWalls_6 rfl (lv_at hl 0 rfl) ?_
  refine lv_iload_n hx hb dX1_lightWithoutWalls_7 rfl (lv_at hl 2 rfl) ?_
  refine lv_iconst (v := (0 : Int32)) hx hb dX1_lightWithoutWalls_8 (by decide) ?_
  obtain ⟨r4, hc3, h⟩ := oc_bind h
  refine kro_i (wc := (WD2 cI cC cZ a_F a_F_table a_F_spots a_F_points a_F_walls a_F_across a_F_bareLight F_glow F_spotCount F_pointCount F_wallCount F_table F_spots F_points F_walls F_across F_bareLight)) C0 hP hD hS [0, 1, 2, 3, 4, 5, 6] rfl (kV (n := 2) (As := [.int p2, .int (0 : Int32)]) (rest := [.int r2]) (wc := (WD2 cI cC cZ a_F a_F_table a_F_spots a_F_points a_F_walls a_F_across a_F_bareLight F_glow F_spotCount F_pointCount F_wallCount F_table F_spots F_points F_walls F_across F_bareLight)) (C := RX1) C0 hP hD hS [0, 1, 2, 3, 4, 5, 6] rfl (by decide) (c_X1_pointFigure l D cI cC cZ a_F a_F_table a_F_spots a_F_points a_F_walls a_F_across a_F_bareLight H.size F_glow F_spotCount F_pointCount F_wallCount F_table F_spots F_points F_walls F_across F_bareLight p2 (0 : Int32) r4 hc3) kw_231 kw_228 kw_229 kw_230 kw_19 (by decide +kernel) (by decide) rfl rfl rfl hl.1 rfl (Nat.le_of_ble_eq_true rfl) ⟨Nat.zero_le _, Nat.zero_le _⟩ dX1_lightWithoutWalls_9) (fun H locs hP hS => ?_)
  refine lv_isub hx hb dX1_lightWithoutWalls_12 ?_
  refine lv_topi (fun t5 e_t5 => ?_)
  have h := oc_nm e_t5 h
  refine lv_istore_n (lv' := [(3, .int t5), (0, .ref a_F), (1, .int p1), (2, .int p2)]) hx hb dX1_lightWithoutWalls_13 rfl hl (by decide) rfl (fun ls hl => ?_)
  refine lv_aload_n hx hb dX1_lightWithoutWalls_14 rfl (lv_at hl 1 rfl) ?_
  refine lv_iload_n hx hb dX1_lightWithoutWalls_15 rfl (lv_at hl 2 rfl) ?_
  refine lv_iconst (v := (1 : Int32)) hx hb dX1_lightWithoutWalls_16 (by decide) ?_
  obtain ⟨r7, hc6, h⟩ := oc_bind h
  refine kro_i (wc := (WD2 cI cC cZ a_F a_F_table a_F_spots a_F_points a_F_walls a_F_across a_F_bareLight F_glow F_spotCount F_pointCount F_wallCount F_table F_spots F_points F_walls F_across F_bareLight)) C0 hP hD hS [0, 1, 2, 3, 4, 5, 6] rfl (kV (n := 2) (As := [.int p1, .int (1 : Int32)]) (rest := []) (wc := (WD2 cI cC cZ a_F a_F_table a_F_spots a_F_points a_F_walls a_F_across a_F_bareLight F_glow F_spotCount F_pointCount F_wallCount F_table F_spots F_points F_walls F_across F_bareLight)) (C := RX1) C0 hP hD hS [0, 1, 2, 3, 4, 5, 6] rfl (by decide) (c_X1_spotFigure l D cI cC cZ a_F a_F_table a_F_spots a_F_points a_F_walls a_F_across a_F_bareLight H.size F_glow F_spotCount F_pointCount F_wallCount F_table F_spots F_points F_walls F_across F_bareLight p1 (1 : Int32) r7 hc6) kw_224 kw_221 kw_222 kw_223 kw_19 (by decide +kernel) (by decide) rfl rfl rfl hl.1 rfl (Nat.le_of_ble_eq_true rfl) ⟨Nat.zero_le _, Nat.zero_le _⟩ dX1_lightWithoutWalls_17) (fun H locs hP hS => ?_)
  refine lv_aload_n hx hb dX1_lightWithoutWalls_20 rfl (lv_at hl 1 rfl) ?_
  refine lv_iload_n hx hb dX1_lightWithoutWalls_21 rfl (lv_at hl 3 rfl) ?_
  refine lv_iconst (v := (1 : Int32)) hx hb dX1_lightWithoutWalls_22 (by decide) ?_
  obtain ⟨r9, hc8, h⟩ := oc_bind h
  refine kro_i (wc := (WD2 cI cC cZ a_F a_F_table a_F_spots a_F_points a_F_walls a_F_across a_F_bareLight F_glow F_spotCount F_pointCount F_wallCount F_table F_spots F_points F_walls F_across F_bareLight)) C0 hP hD hS [0, 1, 2, 3, 4, 5, 6] rfl (kV (n := 2) (As := [.int p2, .int (1 : Int32)]) (rest := [.int r7]) (wc := (WD2 cI cC cZ a_F a_F_table a_F_spots a_F_points a_F_walls a_F_across a_F_bareLight F_glow F_spotCount F_pointCount F_wallCount F_table F_spots F_points F_walls F_across F_bareLight)) (C := RX1) C0 hP hD hS [0, 1, 2, 3, 4, 5, 6] rfl (by decide) (c_X1_pointFigure l D cI cC cZ a_F a_F_table a_F_spots a_F_points a_F_walls a_F_across a_F_bareLight H.size F_glow F_spotCount F_pointCount F_wallCount F_table F_spots F_points F_walls F_across F_bareLight p2 (1 : Int32) r9 hc8) kw_231 kw_228 kw_229 kw_230 kw_19 (by decide +kernel) (by decide) rfl rfl rfl hl.1 rfl (Nat.le_of_ble_eq_true rfl) ⟨Nat.zero_le _, Nat.zero_le _⟩ dX1_lightWithoutWalls_23) (fun H locs hP hS => ?_)
  refine lv_isub hx hb dX1_lightWithoutWalls_26 ?_
  refine lv_topi (fun t10 e_t10 => ?_)
  have h := oc_nm e_t10 h
  refine lv_istore (lv' := [(4, .int t10), (3, .int t5), (0, .ref a_F), (1, .int p1), (2, .int p2)]) hx hb dX1_lightWithoutWalls_27 hl (by decide) rfl (fun ls hl => ?_)
  refine lv_iload_n hx hb dX1_lightWithoutWalls_29 rfl (lv_at hl 1 rfl) ?_
  refine lv_iload_n hx hb dX1_lightWithoutWalls_30 rfl (lv_at hl 1 rfl) ?_
  refine lv_imul hx hb dX1_lightWithoutWalls_31 ?_
  refine lv_iload hx hb dX1_lightWithoutWalls_32 (lv_at hl 0 rfl) ?_
  refine lv_iload hx hb dX1_lightWithoutWalls_34 (lv_at hl 0 rfl) ?_
  refine lv_imul hx hb dX1_lightWithoutWalls_36 ?_
  refine lv_iadd hx hb dX1_lightWithoutWalls_37 ?_
  refine lv_topi (fun t11 e_t11 => ?_)
  have h := oc_nm e_t11 h
  refine lv_istore (lv' := [(5, .int t11), (4, .int t10), (3, .int t5), (0, .ref a_F), (1, .int p1), (2, .int p2)]) hx hb dX1_lightWithoutWalls_38 hl (by decide) rfl (fun ls hl => ?_)
  refine lv_iload hx hb dX1_lightWithoutWalls_40 (lv_at hl 0 rfl) ?_
  refine lv_if_lt (tgt := 52) hx hb dX1_lightWithoutWalls_42 (by decide) (fun c12 => ?_) (fun c12 => ?_)
  · have h := oc_t c12 h
    refine lv_iconst (v := (0 : Int32)) hx hb dX1_lightWithoutWalls_52 (by decide) ?_
    refine lv_goto (tgt := 70) hx hb dX1_lightWithoutWalls_53 (by decide) ?_
    cases h
    exact kret_i C0 hP hD hS rfl dX1_lightWithoutWalls_70
  · have h := oc_f c12 h
    refine lv_iload hx hb dX1_lightWithoutWalls_45 (lv_at hl 0 rfl) ?_
    refine lv_bipush (v := (10 : Int32)) hx hb dX1_lightWithoutWalls_47 (by decide) ?_
    refine lv_icmp_lt (tgt := 56) hx hb dX1_lightWithoutWalls_49 (by decide) (fun c13 => ?_) (fun c13 => ?_)
    · have h := oc_t c13 h
      refine lv_aload_n hx hb dX1_lightWithoutWalls_56 rfl (lv_at hl 3 rfl) ?_
      refine lv_iload_n hx hb dX1_lightWithoutWalls_57 rfl (lv_at hl 4 rfl) ?_
      refine lv_iconst (v := (2 : Int32)) hx hb dX1_lightWithoutWalls_58 (by decide) ?_
      obtain ⟨r15, hc14, h⟩ := oc_bind h
      refine kro_i (wc := (WD2 cI cC cZ a_F a_F_table a_F_spots a_F_points a_F_walls a_F_across a_F_bareLight F_glow F_spotCount F_pointCount F_wallCount F_table F_spots F_points F_walls F_across F_bareLight)) C0 hP hD hS [0, 1, 2, 3, 4, 5, 6] rfl (kV (n := 2) (As := [.int p1, .int (2 : Int32)]) (rest := []) (wc := (WD2 cI cC cZ a_F a_F_table a_F_spots a_F_points a_F_walls a_F_across a_F_bareLight F_glow F_spotCount F_pointCount F_wallCount F_table F_spots F_points F_walls F_across F_bareLight)) (C := RX1) C0 hP hD hS [0, 1, 2, 3, 4, 5, 6] rfl (by decide) (c_X1_spotFigure l D cI cC cZ a_F a_F_table a_F_spots a_F_points a_F_walls a_F_across a_F_bareLight H.size F_glow F_spotCount F_pointCount F_wallCount F_table F_spots F_points F_walls F_across F_bareLight p1 (2 : Int32) r15 hc14) kw_224 kw_221 kw_222 kw_223 kw_19 (by decide +kernel) (by decide) rfl rfl rfl hl.1 rfl (Nat.le_of_ble_eq_true rfl) ⟨Nat.zero_le _, Nat.zero_le _⟩ dX1_lightWithoutWalls_59) (fun H locs hP hS => ?_)
      refine lv_aload_n hx hb dX1_lightWithoutWalls_62 rfl (lv_at hl 3 rfl) ?_
      refine va_get (D := D) (ci := 1) (v := .ref a_F_table) (C := RX1) (T := TX1) (N := 10) hx hb hts inlX1 hown hK hP 0 rfl rfl 0 (by decide) (hts _ kw_50) (fun _ h9 => h9) rfl dX1_lightWithoutWalls_63 ?_
      refine lv_iload hx hb dX1_lightWithoutWalls_66 (lv_at hl 0 rfl) ?_
      obtain ⟨hb16, h⟩ := oc_else h
      refine va_iald hx hb hK hP 1 0 rfl rfl hb16 dX1_lightWithoutWalls_68 ?_
      refine lv_imul hx hb dX1_lightWithoutWalls_69 ?_
      cases h
      exact kret_i C0 hP hD hS rfl dX1_lightWithoutWalls_70
    · have h := oc_f c13 h
      refine lv_iconst (v := (0 : Int32)) hx hb dX1_lightWithoutWalls_52 (by decide) ?_
      refine lv_goto (tgt := 70) hx hb dX1_lightWithoutWalls_53 (by decide) ?_
      cases h
      exact kret_i C0 hP hD hS rfl dX1_lightWithoutWalls_70
abbrev rm_X1_spansMeet : Room := { frames := 1, cells := 0, slots := 0, locals := 21 }
noncomputable def f_X1_spansMeet  (p0 : Int32) (p1 : Int32) (p2 : Int32) (p3 : Int32) : Option (Int32) := nm_ (if p1 < p0 then p1 else p0) (fun t1 => nm_ (if p3 < p2 then p3 else p2) (fun t2 => nm_ (if t1 < t2 then t2 else t1) (fun t3 => nm_ (if p0 < p1 then p1 else p0) (fun t4 => nm_ (if p2 < p3 then p3 else p2) (fun t5 => nm_ (if t5 < t4 then t5 else t4) (fun t6 => if t6 < t3 then (some (0 : Int32)) else (some (1 : Int32))))))))
set_option maxHeartbeats 4000000 in
set_option maxRecDepth 100000 in
theorem c_X1_spansMeet (l : Launch) (D : va_G) (cI cC cZ : ClassId) (sz : Nat) (p0 : Int32) (p1 : Int32) (p2 : Int32) (p3 : Int32) (rr : Int32) (hf : f_X1_spansMeet p0 p1 p2 p3 = some rr) : kMet l yX1_spansMeet cX1_spansMeet 4 (some .boolean) rm_X1_spansMeet D (kTY cI cC cZ) [.int p0, .int p1, .int p2, .int p3] (WD0 cI cC cZ) sz (kQI D (kTY cI cC cZ) (va_A (WD0 cI cC cZ) sz) rr (WD0 cI cC cZ)) := by
  refine kEnter (lv := [(0, .int p0), (1, .int p1), (2, .int p2), (3, .int p3)]) (own := RX1) (by decide) rfl (Nat.le_of_ble_eq_true rfl) rfl ?_
  intro p e s m below meth c hsz C0 hP hD hS ls hl
  generalize (va_A (WD0 cI cC cZ) sz) = A at C0 hD hS ⊢
  clear hsz hS
  obtain ⟨H, hHs⟩ : ∃ H : Heap, H = s.heap := ⟨_, rfl⟩
  have hS : va_S A s.heap H [] := by rw [hHs]; exact va_S.rf
  rw [← hHs] at hP ⊢
  obtain ⟨hx, hb, hr, hml, hown, hts, hK, hN, hA, hlocks, hF⟩ := id C0
  have h := hf
  unfold f_X1_spansMeet at h
  refine lv_iload_n hx hb dX1_spansMeet_0 rfl (lv_at hl 0 rfl) ?_
  refine lv_iload_n hx hb dX1_spansMeet_1 rfl (lv_at hl 1 rfl) ?_
  refine va_mmin hx hb (hml.trans hl.1.symm) hown (hts _ kw_243) (hts _ kw_244) (hts _ kw_245) (hts _ kw_246) (Nat.le_of_ble_eq_true rfl) (Nat.le_of_ble_eq_true rfl) (Nat.zero_le _) (Nat.zero_le _) dX1_spansMeet_2 ?_
  refine lv_topi (fun t1 e_t1 => ?_)
  have h := oc_nm e_t1 h
  refine lv_iload_n hx hb dX1_spansMeet_5 rfl (lv_at hl 2 rfl) ?_
  refine lv_iload_n hx hb dX1_spansMeet_6 rfl (lv_at hl 3 rfl) ?_
  refine va_mmin hx hb (hml.trans hl.1.symm) hown (hts _ kw_243) (hts _ kw_244) (hts _ kw_245) (hts _ kw_246) (Nat.le_of_ble_eq_true rfl) (Nat.le_of_ble_eq_true rfl) (Nat.zero_le _) (Nat.zero_le _) dX1_spansMeet_7 ?_
  refine lv_topi (fun t2 e_t2 => ?_)
  have h := oc_nm e_t2 h
  refine va_mmax hx hb (hml.trans hl.1.symm) hown (hts _ kw_247) (hts _ kw_248) (hts _ kw_245) (hts _ kw_249) (Nat.le_of_ble_eq_true rfl) (Nat.le_of_ble_eq_true rfl) (Nat.zero_le _) (Nat.zero_le _) dX1_spansMeet_10 ?_
  refine lv_topi (fun t3 e_t3 => ?_)
  have h := oc_nm e_t3 h
  refine lv_iload_n hx hb dX1_spansMeet_13 rfl (lv_at hl 0 rfl) ?_
  refine lv_iload_n hx hb dX1_spansMeet_14 rfl (lv_at hl 1 rfl) ?_
  refine va_mmax hx hb (hml.trans hl.1.symm) hown (hts _ kw_247) (hts _ kw_248) (hts _ kw_245) (hts _ kw_249) (Nat.le_of_ble_eq_true rfl) (Nat.le_of_ble_eq_true rfl) (Nat.zero_le _) (Nat.zero_le _) dX1_spansMeet_15 ?_
  refine lv_topi (fun t4 e_t4 => ?_)
  have h := oc_nm e_t4 h
  refine lv_iload_n hx hb dX1_spansMeet_18 rfl (lv_at hl 2 rfl) ?_
  refine lv_iload_n hx hb dX1_spansMeet_19 rfl (lv_at hl 3 rfl) ?_
  refine va_mmax hx hb (hml.trans hl.1.symm) hown (hts _ kw_247) (hts _ kw_248) (hts _ kw_245) (hts _ kw_249) (Nat.le_of_ble_eq_true rfl) (Nat.le_of_ble_eq_true rfl) (Nat.zero_le _) (Nat.zero_le _) dX1_spansMeet_20 ?_
  refine lv_topi (fun t5 e_t5 => ?_)
  have h := oc_nm e_t5 h
  refine va_mmin hx hb (hml.trans hl.1.symm) hown (hts _ kw_243) (hts _ kw_244) (hts _ kw_245) (hts _ kw_246) (Nat.le_of_ble_eq_true rfl) (Nat.le_of_ble_eq_true rfl) (Nat.zero_le _) (Nat.zero_le _) dX1_spansMeet_23 ?_
  refine lv_topi (fun t6 e_t6 => ?_)
  have h := oc_nm e_t6 h
  refine lv_icmp_gt (tgt := 33) hx hb dX1_spansMeet_26 (by decide) (fun c7 => ?_) (fun c7 => ?_)
  · have h := oc_t c7 h
    refine lv_iconst (v := (0 : Int32)) hx hb dX1_spansMeet_33 (by decide) ?_
    cases h
    exact kret_i C0 hP hD hS (by decide) dX1_spansMeet_34
  · have h := oc_f c7 h
    refine lv_iconst (v := (1 : Int32)) hx hb dX1_spansMeet_29 (by decide) ?_
    refine lv_goto (tgt := 34) hx hb dX1_spansMeet_30 (by decide) ?_
    cases h
    exact kret_i C0 hP hD hS (by decide) dX1_spansMeet_34
abbrev rm_X1_side : Room := { frames := 0, cells := 0, slots := 0, locals := 0 }
noncomputable def f_X1_side  (p0 : Int32) (p1 : Int32) (p2 : Int32) (p3 : Int32) (p4 : Int32) (p5 : Int32) : Option (Int32) := some (((p2 - p0) * (p5 - p1)) - ((p3 - p1) * (p4 - p0)))
set_option maxHeartbeats 4000000 in
set_option maxRecDepth 100000 in
theorem c_X1_side (l : Launch) (D : va_G) (cI cC cZ : ClassId) (sz : Nat) (p0 : Int32) (p1 : Int32) (p2 : Int32) (p3 : Int32) (p4 : Int32) (p5 : Int32) (rr : Int32) (hf : f_X1_side p0 p1 p2 p3 p4 p5 = some rr) : kMet l yX1_side cX1_side 6 (some .int) rm_X1_side D (kTY cI cC cZ) [.int p0, .int p1, .int p2, .int p3, .int p4, .int p5] (WD0 cI cC cZ) sz (kQI D (kTY cI cC cZ) (va_A (WD0 cI cC cZ) sz) rr (WD0 cI cC cZ)) := by
  refine kEnter (lv := [(0, .int p0), (1, .int p1), (2, .int p2), (3, .int p3), (4, .int p4), (5, .int p5)]) (own := RX1) (by decide) rfl (Nat.le_of_ble_eq_true rfl) rfl ?_
  intro p e s m below meth c hsz C0 hP hD hS ls hl
  generalize (va_A (WD0 cI cC cZ) sz) = A at C0 hD hS ⊢
  clear hsz hS
  obtain ⟨H, hHs⟩ : ∃ H : Heap, H = s.heap := ⟨_, rfl⟩
  have hS : va_S A s.heap H [] := by rw [hHs]; exact va_S.rf
  rw [← hHs] at hP ⊢
  obtain ⟨hx, hb, hr, hml, hown, hts, hK, hN, hA, hlocks, hF⟩ := id C0
  have h := hf
  unfold f_X1_side at h
  refine lv_iload_n hx hb dX1_side_0 rfl (lv_at hl 2 rfl) ?_
  refine lv_iload_n hx hb dX1_side_1 rfl (lv_at hl 0 rfl) ?_
  refine lv_isub hx hb dX1_side_2 ?_
  refine lv_iload hx hb dX1_side_3 (lv_at hl 5 rfl) ?_
  refine lv_iload_n hx hb dX1_side_5 rfl (lv_at hl 1 rfl) ?_
  refine lv_isub hx hb dX1_side_6 ?_
  refine lv_imul hx hb dX1_side_7 ?_
  refine lv_iload_n hx hb dX1_side_8 rfl (lv_at hl 3 rfl) ?_
  refine lv_iload_n hx hb dX1_side_9 rfl (lv_at hl 1 rfl) ?_
  refine lv_isub hx hb dX1_side_10 ?_
  refine lv_iload hx hb dX1_side_11 (lv_at hl 4 rfl) ?_
  refine lv_iload_n hx hb dX1_side_13 rfl (lv_at hl 0 rfl) ?_
  refine lv_isub hx hb dX1_side_14 ?_
  refine lv_imul hx hb dX1_side_15 ?_
  refine lv_isub hx hb dX1_side_16 ?_
  cases h
  exact kret_i C0 hP hD hS rfl dX1_side_17
abbrev rm_X1_meets : Room := { frames := 2, cells := 0, slots := 0, locals := 45 }
noncomputable def f_X1_meets (F_spots : Nat → Int32) (F_points : Nat → Int32) (F_walls : Nat → Int32) (p1 : Int32) (p2 : Int32) (p3 : Int32) : Option (Int32) := (f_X1_spotFigure F_spots p1 (0 : Int32)).bind (fun r2 => nm_ (((2 : Int32) * r2) + (1 : Int32)) (fun t3 => (f_X1_spotFigure F_spots p1 (1 : Int32)).bind (fun r5 => nm_ (((2 : Int32) * r5) + (1 : Int32)) (fun t6 => (f_X1_pointFigure F_points p2 (0 : Int32)).bind (fun r8 => nm_ (((2 : Int32) * r8) + (1 : Int32)) (fun t9 => (f_X1_pointFigure F_points p2 (1 : Int32)).bind (fun r11 => nm_ (((2 : Int32) * r11) + (1 : Int32)) (fun t12 => (f_X1_wallFigure F_walls p3 (0 : Int32)).bind (fun r14 => nm_ ((2 : Int32) * r14) (fun t15 => (f_X1_wallFigure F_walls p3 (1 : Int32)).bind (fun r17 => nm_ ((2 : Int32) * r17) (fun t18 => (f_X1_wallFigure F_walls p3 (2 : Int32)).bind (fun r20 => nm_ ((2 : Int32) * r20) (fun t21 => (f_X1_wallFigure F_walls p3 (3 : Int32)).bind (fun r23 => nm_ ((2 : Int32) * r23) (fun t24 => (f_X1_spansMeet t3 t9 t15 t21).bind (fun r26 => if r26 = 0 then (some (0 : Int32)) else ((f_X1_spansMeet t6 t12 t18 t24).bind (fun r29 => if r29 = 0 then (some (0 : Int32)) else ((f_X1_side t3 t6 t9 t12 t15 t18).bind (fun r32 => (f_X1_side t3 t6 t9 t12 t21 t24).bind (fun r34 => if 0 < (r32 * r34) then (some (0 : Int32)) else ((f_X1_side t15 t18 t21 t24 t3 t6).bind (fun r37 => (f_X1_side t15 t18 t21 t24 t9 t12).bind (fun r39 => if 0 < (r37 * r39) then (some (0 : Int32)) else (some (1 : Int32)))))))))))))))))))))))))))
set_option maxHeartbeats 4000000 in
set_option maxRecDepth 100000 in
theorem c_X1_meets (l : Launch) (D : va_G) (cI cC cZ : ClassId) (a_F a_F_table a_F_spots a_F_points a_F_walls a_F_across a_F_bareLight : Nat) (sz : Nat) (F_glow : Int32) (F_spotCount : Int32) (F_pointCount : Int32) (F_wallCount : Int32) (F_table : Nat → Int32) (F_spots : Nat → Int32) (F_points : Nat → Int32) (F_walls : Nat → Int32) (F_across : Nat → Int32) (F_bareLight : Nat → Int32) (p1 : Int32) (p2 : Int32) (p3 : Int32) (rr : Int32) (hf : f_X1_meets F_spots F_points F_walls p1 p2 p3 = some rr) : kMet l yX1_meets cX1_meets 12 (some .boolean) rm_X1_meets D (kTY cI cC cZ) [.ref a_F, .int p1, .int p2, .int p3] (WD2 cI cC cZ a_F a_F_table a_F_spots a_F_points a_F_walls a_F_across a_F_bareLight F_glow F_spotCount F_pointCount F_wallCount F_table F_spots F_points F_walls F_across F_bareLight) sz (kQI D (kTY cI cC cZ) (va_A (WD2 cI cC cZ a_F a_F_table a_F_spots a_F_points a_F_walls a_F_across a_F_bareLight F_glow F_spotCount F_pointCount F_wallCount F_table F_spots F_points F_walls F_across F_bareLight) sz) rr (WD2 cI cC cZ a_F a_F_table a_F_spots a_F_points a_F_walls a_F_across a_F_bareLight F_glow F_spotCount F_pointCount F_wallCount F_table F_spots F_points F_walls F_across F_bareLight)) := by
  refine kEnter (lv := [(0, .ref a_F), (1, .int p1), (2, .int p2), (3, .int p3)]) (own := RX1) (by decide) rfl (Nat.le_of_ble_eq_true rfl) rfl ?_
  intro p e s m below meth c hsz C0 hP hD hS ls hl
  generalize (va_A (WD2 cI cC cZ a_F a_F_table a_F_spots a_F_points a_F_walls a_F_across a_F_bareLight F_glow F_spotCount F_pointCount F_wallCount F_table F_spots F_points F_walls F_across F_bareLight) sz) = A at C0 hD hS ⊢
  clear hsz hS
  obtain ⟨H, hHs⟩ : ∃ H : Heap, H = s.heap := ⟨_, rfl⟩
  have hS : va_S A s.heap H [] := by rw [hHs]; exact va_S.rf
  rw [← hHs] at hP ⊢
  obtain ⟨hx, hb, hr, hml, hown, hts, hK, hN, hA, hlocks, hF⟩ := id C0
  have h := hf
  unfold f_X1_meets at h
  refine lv_iconst (v := (2 : Int32)) hx hb dX1_meets_0 (by decide) ?_
  refine lv_aload_n hx hb dX1_meets_1 rfl (lv_at hl 0 rfl) ?_
  refine lv_iload_n hx hb dX1_meets_2 rfl (lv_at hl 1 rfl) ?_
  refine lv_iconst (v := (0 : Int32)) hx hb dX1_meets_3 (by decide) ?_
  obtain ⟨r2, hc1, h⟩ := oc_bind h
  refine kro_i (wc := (WD2 cI cC cZ a_F a_F_table a_F_spots a_F_points a_F_walls a_F_across a_F_bareLight F_glow F_spotCount F_pointCount F_wallCount F_table F_spots F_points F_walls F_across F_bareLight)) C0 hP hD hS [0, 1, 2, 3, 4, 5, 6] rfl (kV (n := 2) (As := [.int p1, .int (0 : Int32)]) (rest := [.int (2 : Int32)]) (wc := (WD2 cI cC cZ a_F a_F_table a_F_spots a_F_points a_F_walls a_F_across a_F_bareLight F_glow F_spotCount F_pointCount F_wallCount F_table F_spots F_points F_walls F_across F_bareLight)) (C := RX1) C0 hP hD hS [0, 1, 2, 3, 4, 5, 6] rfl (by decide) (c_X1_spotFigure l D cI cC cZ a_F a_F_table a_F_spots a_F_points a_F_walls a_F_across a_F_bareLight H.size F_glow F_spotCount F_pointCount F_wallCount F_table F_spots F_points F_walls F_across F_bareLight p1 (0 : Int32) r2 hc1) kw_224 kw_221 kw_222 kw_223 kw_19 (by decide +kernel) (by decide) rfl rfl rfl hl.1 rfl (Nat.le_of_ble_eq_true rfl) ⟨Nat.zero_le _, Nat.zero_le _⟩ dX1_meets_4) (fun H locs hP hS => ?_)
  refine lv_imul hx hb dX1_meets_7 ?_
  refine lv_iconst (v := (1 : Int32)) hx hb dX1_meets_8 (by decide) ?_
  refine lv_iadd hx hb dX1_meets_9 ?_
  refine lv_topi (fun t3 e_t3 => ?_)
  have h := oc_nm e_t3 h
  refine lv_istore (lv' := [(4, .int t3), (0, .ref a_F), (1, .int p1), (2, .int p2), (3, .int p3)]) hx hb dX1_meets_10 hl (by decide) rfl (fun ls hl => ?_)
  refine lv_iconst (v := (2 : Int32)) hx hb dX1_meets_12 (by decide) ?_
  refine lv_aload_n hx hb dX1_meets_13 rfl (lv_at hl 1 rfl) ?_
  refine lv_iload_n hx hb dX1_meets_14 rfl (lv_at hl 2 rfl) ?_
  refine lv_iconst (v := (1 : Int32)) hx hb dX1_meets_15 (by decide) ?_
  obtain ⟨r5, hc4, h⟩ := oc_bind h
  refine kro_i (wc := (WD2 cI cC cZ a_F a_F_table a_F_spots a_F_points a_F_walls a_F_across a_F_bareLight F_glow F_spotCount F_pointCount F_wallCount F_table F_spots F_points F_walls F_across F_bareLight)) C0 hP hD hS [0, 1, 2, 3, 4, 5, 6] rfl (kV (n := 2) (As := [.int p1, .int (1 : Int32)]) (rest := [.int (2 : Int32)]) (wc := (WD2 cI cC cZ a_F a_F_table a_F_spots a_F_points a_F_walls a_F_across a_F_bareLight F_glow F_spotCount F_pointCount F_wallCount F_table F_spots F_points F_walls F_across F_bareLight)) (C := RX1) C0 hP hD hS [0, 1, 2, 3, 4, 5, 6] rfl (by decide) (c_X1_spotFigure l D cI cC cZ a_F a_F_table a_F_spots a_F_points a_F_walls a_F_across a_F_bareLight H.size F_glow F_spotCount F_pointCount F_wallCount F_table F_spots F_points F_walls F_across F_bareLight p1 (1 : Int32) r5 hc4) kw_224 kw_221 kw_222 kw_223 kw_19 (by decide +kernel) (by decide) rfl rfl rfl hl.1 rfl (Nat.le_of_ble_eq_true rfl) ⟨Nat.zero_le _, Nat.zero_le _⟩ dX1_meets_16) (fun H locs hP hS => ?_)
  refine lv_imul hx hb dX1_meets_19 ?_
  refine lv_iconst (v := (1 : Int32)) hx hb dX1_meets_20 (by decide) ?_
  refine lv_iadd hx hb dX1_meets_21 ?_
  refine lv_topi (fun t6 e_t6 => ?_)
  have h := oc_nm e_t6 h
  refine lv_istore (lv' := [(5, .int t6), (4, .int t3), (0, .ref a_F), (1, .int p1), (2, .int p2), (3, .int p3)]) hx hb dX1_meets_22 hl (by decide) rfl (fun ls hl => ?_)
  refine lv_iconst (v := (2 : Int32)) hx hb dX1_meets_24 (by decide) ?_
  refine lv_aload_n hx hb dX1_meets_25 rfl (lv_at hl 2 rfl) ?_
  refine lv_iload_n hx hb dX1_meets_26 rfl (lv_at hl 4 rfl) ?_
  refine lv_iconst (v := (0 : Int32)) hx hb dX1_meets_27 (by decide) ?_
  obtain ⟨r8, hc7, h⟩ := oc_bind h
  refine kro_i (wc := (WD2 cI cC cZ a_F a_F_table a_F_spots a_F_points a_F_walls a_F_across a_F_bareLight F_glow F_spotCount F_pointCount F_wallCount F_table F_spots F_points F_walls F_across F_bareLight)) C0 hP hD hS [0, 1, 2, 3, 4, 5, 6] rfl (kV (n := 2) (As := [.int p2, .int (0 : Int32)]) (rest := [.int (2 : Int32)]) (wc := (WD2 cI cC cZ a_F a_F_table a_F_spots a_F_points a_F_walls a_F_across a_F_bareLight F_glow F_spotCount F_pointCount F_wallCount F_table F_spots F_points F_walls F_across F_bareLight)) (C := RX1) C0 hP hD hS [0, 1, 2, 3, 4, 5, 6] rfl (by decide) (c_X1_pointFigure l D cI cC cZ a_F a_F_table a_F_spots a_F_points a_F_walls a_F_across a_F_bareLight H.size F_glow F_spotCount F_pointCount F_wallCount F_table F_spots F_points F_walls F_across F_bareLight p2 (0 : Int32) r8 hc7) kw_231 kw_228 kw_229 kw_230 kw_19 (by decide +kernel) (by decide) rfl rfl rfl hl.1 rfl (Nat.le_of_ble_eq_true rfl) ⟨Nat.zero_le _, Nat.zero_le _⟩ dX1_meets_28) (fun H locs hP hS => ?_)
  refine lv_imul hx hb dX1_meets_31 ?_
  refine lv_iconst (v := (1 : Int32)) hx hb dX1_meets_32 (by decide) ?_
  refine lv_iadd hx hb dX1_meets_33 ?_
  refine lv_topi (fun t9 e_t9 => ?_)
  have h := oc_nm e_t9 h
  refine lv_istore (lv' := [(6, .int t9), (5, .int t6), (4, .int t3), (0, .ref a_F), (1, .int p1), (2, .int p2), (3, .int p3)]) hx hb dX1_meets_34 hl (by decide) rfl (fun ls hl => ?_)
  refine lv_iconst (v := (2 : Int32)) hx hb dX1_meets_36 (by decide) ?_
  refine lv_aload_n hx hb dX1_meets_37 rfl (lv_at hl 3 rfl) ?_
  refine lv_iload_n hx hb dX1_meets_38 rfl (lv_at hl 5 rfl) ?_
  refine lv_iconst (v := (1 : Int32)) hx hb dX1_meets_39 (by decide) ?_
  obtain ⟨r11, hc10, h⟩ := oc_bind h
  refine kro_i (wc := (WD2 cI cC cZ a_F a_F_table a_F_spots a_F_points a_F_walls a_F_across a_F_bareLight F_glow F_spotCount F_pointCount F_wallCount F_table F_spots F_points F_walls F_across F_bareLight)) C0 hP hD hS [0, 1, 2, 3, 4, 5, 6] rfl (kV (n := 2) (As := [.int p2, .int (1 : Int32)]) (rest := [.int (2 : Int32)]) (wc := (WD2 cI cC cZ a_F a_F_table a_F_spots a_F_points a_F_walls a_F_across a_F_bareLight F_glow F_spotCount F_pointCount F_wallCount F_table F_spots F_points F_walls F_across F_bareLight)) (C := RX1) C0 hP hD hS [0, 1, 2, 3, 4, 5, 6] rfl (by decide) (c_X1_pointFigure l D cI cC cZ a_F a_F_table a_F_spots a_F_points a_F_walls a_F_across a_F_bareLight H.size F_glow F_spotCount F_pointCount F_wallCount F_table F_spots F_points F_walls F_across F_bareLight p2 (1 : Int32) r11 hc10) kw_231 kw_228 kw_229 kw_230 kw_19 (by decide +kernel) (by decide) rfl rfl rfl hl.1 rfl (Nat.le_of_ble_eq_true rfl) ⟨Nat.zero_le _, Nat.zero_le _⟩ dX1_meets_40) (fun H locs hP hS => ?_)
  refine lv_imul hx hb dX1_meets_43 ?_
  refine lv_iconst (v := (1 : Int32)) hx hb dX1_meets_44 (by decide) ?_
  refine lv_iadd hx hb dX1_meets_45 ?_
  refine lv_topi (fun t12 e_t12 => ?_)
  have h := oc_nm e_t12 h
  refine lv_istore (lv' := [(7, .int t12), (6, .int t9), (5, .int t6), (4, .int t3), (0, .ref a_F), (1, .int p1), (2, .int p2), (3, .int p3)]) hx hb dX1_meets_46 hl (by decide) rfl (fun ls hl => ?_)
  refine lv_iconst (v := (2 : Int32)) hx hb dX1_meets_48 (by decide) ?_
  refine lv_aload_n hx hb dX1_meets_49 rfl (lv_at hl 4 rfl) ?_
  refine lv_iload_n hx hb dX1_meets_50 rfl (lv_at hl 7 rfl) ?_
  refine lv_iconst (v := (0 : Int32)) hx hb dX1_meets_51 (by decide) ?_
  obtain ⟨r14, hc13, h⟩ := oc_bind h
  refine kro_i (wc := (WD2 cI cC cZ a_F a_F_table a_F_spots a_F_points a_F_walls a_F_across a_F_bareLight F_glow F_spotCount F_pointCount F_wallCount F_table F_spots F_points F_walls F_across F_bareLight)) C0 hP hD hS [0, 1, 2, 3, 4, 5, 6] rfl (kV (n := 2) (As := [.int p3, .int (0 : Int32)]) (rest := [.int (2 : Int32)]) (wc := (WD2 cI cC cZ a_F a_F_table a_F_spots a_F_points a_F_walls a_F_across a_F_bareLight F_glow F_spotCount F_pointCount F_wallCount F_table F_spots F_points F_walls F_across F_bareLight)) (C := RX1) C0 hP hD hS [0, 1, 2, 3, 4, 5, 6] rfl (by decide) (c_X1_wallFigure l D cI cC cZ a_F a_F_table a_F_spots a_F_points a_F_walls a_F_across a_F_bareLight H.size F_glow F_spotCount F_pointCount F_wallCount F_table F_spots F_points F_walls F_across F_bareLight p3 (0 : Int32) r14 hc13) kw_239 kw_236 kw_237 kw_238 kw_19 (by decide +kernel) (by decide) rfl rfl rfl hl.1 rfl (Nat.le_of_ble_eq_true rfl) ⟨Nat.zero_le _, Nat.zero_le _⟩ dX1_meets_52) (fun H locs hP hS => ?_)
  refine lv_imul hx hb dX1_meets_55 ?_
  refine lv_topi (fun t15 e_t15 => ?_)
  have h := oc_nm e_t15 h
  refine lv_istore (lv' := [(8, .int t15), (7, .int t12), (6, .int t9), (5, .int t6), (4, .int t3), (0, .ref a_F), (1, .int p1), (2, .int p2), (3, .int p3)]) hx hb dX1_meets_56 hl (by decide) rfl (fun ls hl => ?_)
  refine lv_iconst (v := (2 : Int32)) hx hb dX1_meets_58 (by decide) ?_
  refine lv_aload_n hx hb dX1_meets_59 rfl (lv_at hl 5 rfl) ?_
  refine lv_iload_n hx hb dX1_meets_60 rfl (lv_at hl 8 rfl) ?_
  refine lv_iconst (v := (1 : Int32)) hx hb dX1_meets_61 (by decide) ?_
  obtain ⟨r17, hc16, h⟩ := oc_bind h
  refine kro_i (wc := (WD2 cI cC cZ a_F a_F_table a_F_spots a_F_points a_F_walls a_F_across a_F_bareLight F_glow F_spotCount F_pointCount F_wallCount F_table F_spots F_points F_walls F_across F_bareLight)) C0 hP hD hS [0, 1, 2, 3, 4, 5, 6] rfl (kV (n := 2) (As := [.int p3, .int (1 : Int32)]) (rest := [.int (2 : Int32)]) (wc := (WD2 cI cC cZ a_F a_F_table a_F_spots a_F_points a_F_walls a_F_across a_F_bareLight F_glow F_spotCount F_pointCount F_wallCount F_table F_spots F_points F_walls F_across F_bareLight)) (C := RX1) C0 hP hD hS [0, 1, 2, 3, 4, 5, 6] rfl (by decide) (c_X1_wallFigure l D cI cC cZ a_F a_F_table a_F_spots a_F_points a_F_walls a_F_across a_F_bareLight H.size F_glow F_spotCount F_pointCount F_wallCount F_table F_spots F_points F_walls F_across F_bareLight p3 (1 : Int32) r17 hc16) kw_239 kw_236 kw_237 kw_238 kw_19 (by decide +kernel) (by decide) rfl rfl rfl hl.1 rfl (Nat.le_of_ble_eq_true rfl) ⟨Nat.zero_le _, Nat.zero_le _⟩ dX1_meets_62) (fun H locs hP hS => ?_)
  refine lv_imul hx hb dX1_meets_65 ?_
  refine lv_topi (fun t18 e_t18 => ?_)
  have h := oc_nm e_t18 h
  refine lv_istore (lv' := [(9, .int t18), (8, .int t15), (7, .int t12), (6, .int t9), (5, .int t6), (4, .int t3), (0, .ref a_F), (1, .int p1), (2, .int p2), (3, .int p3)]) hx hb dX1_meets_66 hl (by decide) rfl (fun ls hl => ?_)
  refine lv_iconst (v := (2 : Int32)) hx hb dX1_meets_68 (by decide) ?_
  refine lv_aload_n hx hb dX1_meets_69 rfl (lv_at hl 6 rfl) ?_
  refine lv_iload_n hx hb dX1_meets_70 rfl (lv_at hl 9 rfl) ?_
  refine lv_iconst (v := (2 : Int32)) hx hb dX1_meets_71 (by decide) ?_
  obtain ⟨r20, hc19, h⟩ := oc_bind h
  refine kro_i (wc := (WD2 cI cC cZ a_F a_F_table a_F_spots a_F_points a_F_walls a_F_across a_F_bareLight F_glow F_spotCount F_pointCount F_wallCount F_table F_spots F_points F_walls F_across F_bareLight)) C0 hP hD hS [0, 1, 2, 3, 4, 5, 6] rfl (kV (n := 2) (As := [.int p3, .int (2 : Int32)]) (rest := [.int (2 : Int32)]) (wc := (WD2 cI cC cZ a_F a_F_table a_F_spots a_F_points a_F_walls a_F_across a_F_bareLight F_glow F_spotCount F_pointCount F_wallCount F_table F_spots F_points F_walls F_across F_bareLight)) (C := RX1) C0 hP hD hS [0, 1, 2, 3, 4, 5, 6] rfl (by decide) (c_X1_wallFigure l D cI cC cZ a_F a_F_table a_F_spots a_F_points a_F_walls a_F_across a_F_bareLight H.size F_glow F_spotCount F_pointCount F_wallCount F_table F_spots F_points F_walls F_across F_bareLight p3 (2 : Int32) r20 hc19) kw_239 kw_236 kw_237 kw_238 kw_19 (by decide +kernel) (by decide) rfl rfl rfl hl.1 rfl (Nat.le_of_ble_eq_true rfl) ⟨Nat.zero_le _, Nat.zero_le _⟩ dX1_meets_72) (fun H locs hP hS => ?_)
  refine lv_imul hx hb dX1_meets_75 ?_
  refine lv_topi (fun t21 e_t21 => ?_)
  have h := oc_nm e_t21 h
  refine lv_istore (lv' := [(10, .int t21), (9, .int t18), (8, .int t15), (7, .int t12), (6, .int t9), (5, .int t6), (4, .int t3), (0, .ref a_F), (1, .int p1), (2, .int p2), (3, .int p3)]) hx hb dX1_meets_76 hl (by decide) rfl (fun ls hl => ?_)
  refine lv_iconst (v := (2 : Int32)) hx hb dX1_meets_78 (by decide) ?_
  refine lv_aload_n hx hb dX1_meets_79 rfl (lv_at hl 7 rfl) ?_
  refine lv_iload_n hx hb dX1_meets_80 rfl (lv_at hl 10 rfl) ?_
  refine lv_iconst (v := (3 : Int32)) hx hb dX1_meets_81 (by decide) ?_
  obtain ⟨r23, hc22, h⟩ := oc_bind h
  refine kro_i (wc := (WD2 cI cC cZ a_F a_F_table a_F_spots a_F_points a_F_walls a_F_across a_F_bareLight F_glow F_spotCount F_pointCount F_wallCount F_table F_spots F_points F_walls F_across F_bareLight)) C0 hP hD hS [0, 1, 2, 3, 4, 5, 6] rfl (kV (n := 2) (As := [.int p3, .int (3 : Int32)]) (rest := [.int (2 : Int32)]) (wc := (WD2 cI cC cZ a_F a_F_table a_F_spots a_F_points a_F_walls a_F_across a_F_bareLight F_glow F_spotCount F_pointCount F_wallCount F_table F_spots F_points F_walls F_across F_bareLight)) (C := RX1) C0 hP hD hS [0, 1, 2, 3, 4, 5, 6] rfl (by decide) (c_X1_wallFigure l D cI cC cZ a_F a_F_table a_F_spots a_F_points a_F_walls a_F_across a_F_bareLight H.size F_glow F_spotCount F_pointCount F_wallCount F_table F_spots F_points F_walls F_across F_bareLight p3 (3 : Int32) r23 hc22) kw_239 kw_236 kw_237 kw_238 kw_19 (by decide +kernel) (by decide) rfl rfl rfl hl.1 rfl (Nat.le_of_ble_eq_true rfl) ⟨Nat.zero_le _, Nat.zero_le _⟩ dX1_meets_82) (fun H locs hP hS => ?_)
  refine lv_imul hx hb dX1_meets_85 ?_
  refine lv_topi (fun t24 e_t24 => ?_)
  have h := oc_nm e_t24 h
  refine lv_istore (lv' := [(11, .int t24), (10, .int t21), (9, .int t18), (8, .int t15), (7, .int t12), (6, .int t9), (5, .int t6), (4, .int t3), (0, .ref a_F), (1, .int p1), (2, .int p2), (3, .int p3)]) hx hb dX1_meets_86 hl (by decide) rfl (fun ls hl => ?_)
  refine lv_iload hx hb dX1_meets_88 (lv_at hl 7 rfl) ?_
  refine lv_iload hx hb dX1_meets_90 (lv_at hl 5 rfl) ?_
  refine lv_iload hx hb dX1_meets_92 (lv_at hl 3 rfl) ?_
  refine lv_iload hx hb dX1_meets_94 (lv_at hl 1 rfl) ?_
  obtain ⟨r26, hc25, h⟩ := oc_bind h
  refine kro_i (wc := (WD0 cI cC cZ)) C0 hP hD hS [] rfl (kS (n := 4) (As := [.int t3, .int t9, .int t15, .int t21]) (rest := []) (wc := (WD0 cI cC cZ)) C0 hP hD hS [] rfl (by decide) (c_X1_spansMeet l D cI cC cZ  H.size  t3 t9 t15 t21 r26 hc25) kw_242 kw_240 kw_241 kw_19 (by decide +kernel) (by decide) rfl hl.1 rfl (Nat.le_of_ble_eq_true rfl) ⟨Nat.zero_le _, Nat.zero_le _⟩ dX1_meets_96) (fun H locs hP hS => ?_)
  refine lv_if_eq (tgt := 188) hx hb dX1_meets_99 (by decide) (fun c27 => ?_) (fun c27 => ?_)
  · have h := oc_t c27 h
    refine lv_iconst (v := (0 : Int32)) hx hb dX1_meets_188 (by decide) ?_
    cases h
    exact kret_i C0 hP hD hS (by decide) dX1_meets_189
  · have h := oc_f c27 h
    refine lv_iload hx hb dX1_meets_102 (lv_at hl 6 rfl) ?_
    refine lv_iload hx hb dX1_meets_104 (lv_at hl 4 rfl) ?_
    refine lv_iload hx hb dX1_meets_106 (lv_at hl 2 rfl) ?_
    refine lv_iload hx hb dX1_meets_108 (lv_at hl 0 rfl) ?_
    obtain ⟨r29, hc28, h⟩ := oc_bind h
    refine kro_i (wc := (WD0 cI cC cZ)) C0 hP hD hS [] rfl (kS (n := 4) (As := [.int t6, .int t12, .int t18, .int t24]) (rest := []) (wc := (WD0 cI cC cZ)) C0 hP hD hS [] rfl (by decide) (c_X1_spansMeet l D cI cC cZ  H.size  t6 t12 t18 t24 r29 hc28) kw_242 kw_240 kw_241 kw_19 (by decide +kernel) (by decide) rfl hl.1 rfl (Nat.le_of_ble_eq_true rfl) ⟨Nat.zero_le _, Nat.zero_le _⟩ dX1_meets_110) (fun H locs hP hS => ?_)
    refine lv_if_eq (tgt := 188) hx hb dX1_meets_113 (by decide) (fun c30 => ?_) (fun c30 => ?_)
    · have h := oc_t c30 h
      refine lv_iconst (v := (0 : Int32)) hx hb dX1_meets_188 (by decide) ?_
      cases h
      exact kret_i C0 hP hD hS (by decide) dX1_meets_189
    · have h := oc_f c30 h
      refine lv_iload hx hb dX1_meets_116 (lv_at hl 7 rfl) ?_
      refine lv_iload hx hb dX1_meets_118 (lv_at hl 6 rfl) ?_
      refine lv_iload hx hb dX1_meets_120 (lv_at hl 5 rfl) ?_
      refine lv_iload hx hb dX1_meets_122 (lv_at hl 4 rfl) ?_
      refine lv_iload hx hb dX1_meets_124 (lv_at hl 3 rfl) ?_
      refine lv_iload hx hb dX1_meets_126 (lv_at hl 2 rfl) ?_
      obtain ⟨r32, hc31, h⟩ := oc_bind h
      refine kro_i (wc := (WD0 cI cC cZ)) C0 hP hD hS [] rfl (kS (n := 6) (As := [.int t3, .int t6, .int t9, .int t12, .int t15, .int t18]) (rest := []) (wc := (WD0 cI cC cZ)) C0 hP hD hS [] rfl (by decide) (c_X1_side l D cI cC cZ  H.size  t3 t6 t9 t12 t15 t18 r32 hc31) kw_252 kw_250 kw_251 kw_19 (by decide +kernel) (by decide) rfl hl.1 rfl (Nat.le_of_ble_eq_true rfl) ⟨Nat.zero_le _, Nat.zero_le _⟩ dX1_meets_128) (fun H locs hP hS => ?_)
      refine lv_iload hx hb dX1_meets_131 (lv_at hl 7 rfl) ?_
      refine lv_iload hx hb dX1_meets_133 (lv_at hl 6 rfl) ?_
      refine lv_iload hx hb dX1_meets_135 (lv_at hl 5 rfl) ?_
      refine lv_iload hx hb dX1_meets_137 (lv_at hl 4 rfl) ?_
      refine lv_iload hx hb dX1_meets_139 (lv_at hl 1 rfl) ?_
      refine lv_iload hx hb dX1_meets_141 (lv_at hl 0 rfl) ?_
      obtain ⟨r34, hc33, h⟩ := oc_bind h
      refine kro_i (wc := (WD0 cI cC cZ)) C0 hP hD hS [] rfl (kS (n := 6) (As := [.int t3, .int t6, .int t9, .int t12, .int t21, .int t24]) (rest := [.int r32]) (wc := (WD0 cI cC cZ)) C0 hP hD hS [] rfl (by decide) (c_X1_side l D cI cC cZ  H.size  t3 t6 t9 t12 t21 t24 r34 hc33) kw_252 kw_250 kw_251 kw_19 (by decide +kernel) (by decide) rfl hl.1 rfl (Nat.le_of_ble_eq_true rfl) ⟨Nat.zero_le _, Nat.zero_le _⟩ dX1_meets_143) (fun H locs hP hS => ?_)
      refine lv_imul hx hb dX1_meets_146 ?_
      refine lv_if_gt (tgt := 188) hx hb dX1_meets_147 (by decide) (fun c35 => ?_) (fun c35 => ?_)
      · have h := oc_t c35 h
        refine lv_iconst (v := (0 : Int32)) hx hb dX1_meets_188 (by decide) ?_
        cases h
        exact kret_i C0 hP hD hS (by decide) dX1_meets_189
      · have h := oc_f c35 h
        refine lv_iload hx hb dX1_meets_150 (lv_at hl 3 rfl) ?_
        refine lv_iload hx hb dX1_meets_152 (lv_at hl 2 rfl) ?_
        refine lv_iload hx hb dX1_meets_154 (lv_at hl 1 rfl) ?_
        refine lv_iload hx hb dX1_meets_156 (lv_at hl 0 rfl) ?_
        refine lv_iload hx hb dX1_meets_158 (lv_at hl 7 rfl) ?_
        refine lv_iload hx hb dX1_meets_160 (lv_at hl 6 rfl) ?_
        obtain ⟨r37, hc36, h⟩ := oc_bind h
        refine kro_i (wc := (WD0 cI cC cZ)) C0 hP hD hS [] rfl (kS (n := 6) (As := [.int t15, .int t18, .int t21, .int t24, .int t3, .int t6]) (rest := []) (wc := (WD0 cI cC cZ)) C0 hP hD hS [] rfl (by decide) (c_X1_side l D cI cC cZ  H.size  t15 t18 t21 t24 t3 t6 r37 hc36) kw_252 kw_250 kw_251 kw_19 (by decide +kernel) (by decide) rfl hl.1 rfl (Nat.le_of_ble_eq_true rfl) ⟨Nat.zero_le _, Nat.zero_le _⟩ dX1_meets_162) (fun H locs hP hS => ?_)
        refine lv_iload hx hb dX1_meets_165 (lv_at hl 3 rfl) ?_
        refine lv_iload hx hb dX1_meets_167 (lv_at hl 2 rfl) ?_
        refine lv_iload hx hb dX1_meets_169 (lv_at hl 1 rfl) ?_
        refine lv_iload hx hb dX1_meets_171 (lv_at hl 0 rfl) ?_
        refine lv_iload hx hb dX1_meets_173 (lv_at hl 5 rfl) ?_
        refine lv_iload hx hb dX1_meets_175 (lv_at hl 4 rfl) ?_
        obtain ⟨r39, hc38, h⟩ := oc_bind h
        refine kro_i (wc := (WD0 cI cC cZ)) C0 hP hD hS [] rfl (kS (n := 6) (As := [.int t15, .int t18, .int t21, .int t24, .int t9, .int t12]) (rest := [.int r37]) (wc := (WD0 cI cC cZ)) C0 hP hD hS [] rfl (by decide) (c_X1_side l D cI cC cZ  H.size  t15 t18 t21 t24 t9 t12 r39 hc38) kw_252 kw_250 kw_251 kw_19 (by decide +kernel) (by decide) rfl hl.1 rfl (Nat.le_of_ble_eq_true rfl) ⟨Nat.zero_le _, Nat.zero_le _⟩ dX1_meets_177) (fun H locs hP hS => ?_)
        refine lv_imul hx hb dX1_meets_180 ?_
        refine lv_if_gt (tgt := 188) hx hb dX1_meets_181 (by decide) (fun c40 => ?_) (fun c40 => ?_)
        · have h := oc_t c40 h
          refine lv_iconst (v := (0 : Int32)) hx hb dX1_meets_188 (by decide) ?_
          cases h
          exact kret_i C0 hP hD hS (by decide) dX1_meets_189
        · have h := oc_f c40 h
          refine lv_iconst (v := (1 : Int32)) hx hb dX1_meets_184 (by decide) ?_
          refine lv_goto (tgt := 189) hx hb dX1_meets_185 (by decide) ?_
          cases h
          exact kret_i C0 hP hD hS (by decide) dX1_meets_189
abbrev rm_X1_throwRays : Room := { frames := 3, cells := 0, slots := 0, locals := 76 }
noncomputable def bk_X1_throwRays_61 (k2 : (Nat → Int32) → (Nat → Int32) → Int32 → Option ((Nat → Int32) × (Nat → Int32))) (k18 : (Nat → Int32) → (Nat → Int32) → Int32 → Option ((Nat → Int32) × (Nat → Int32))) (k61 : (Nat → Int32) → Int32 → Option ((Nat → Int32) × (Nat → Int32))) (F_spotCount : Int32) (F_pointCount : Int32) (F_wallCount : Int32) (F_table : Nat → Int32) (F_spots : Nat → Int32) (F_points : Nat → Int32) (F_walls : Nat → Int32) (F_bareLight : Nat → Int32) (p1 : Int32) (p2 : Int32) (p3 : Int32) (F_across : Nat → Int32) (p4 : Int32) : Option ((Nat → Int32) × (Nat → Int32)) := if F_wallCount ≤ p4 then (nm_ (p2 + (1 : Int32)) (fun t2 => k18 F_across F_bareLight t2)) else ((f_X1_meets F_spots F_points F_walls p1 p2 p4).bind (fun r4 => if r4 = 0 then (nm_ (p4 + (1 : Int32)) (fun t6 => k61 F_across t6)) else (if (p3 < 0 ∨ 48 ≤ Int32.toNatClampNeg p3) then none else (if (p3 < 0 ∨ 48 ≤ Int32.toNatClampNeg p3) then none else (nm_ (p4 + (1 : Int32)) (fun t9 => k61 (upd F_across (Int32.toNatClampNeg p3) ((F_across (Int32.toNatClampNeg p3)) ||| ((1 : Int32) <<< (p4 &&& 31)))) t9))))))
set_option maxHeartbeats 4000000 in
set_option maxRecDepth 100000 in
theorem wk_X1_throwRays_61 {p : Program} {l : Launch} {e : Env} {s : State} {m : MethodId} {args : Array Value} {below : List Frame} {meth : Method} {c : Code} {D : va_G} {cI cC cZ : ClassId} {A : Nat → Prop} {a_F a_F_table a_F_spots a_F_points a_F_walls a_F_across a_F_bareLight : Nat} {F_glow : Int32} {F_spotCount : Int32} {F_pointCount : Int32} {F_wallCount : Int32} {F_table : Nat → Int32} {F_spots : Nat → Int32} {F_points : Nat → Int32} {F_walls : Nat → Int32} {F_across : Nat → Int32} {F_bareLight : Nat → Int32} {p1 : Int32} {p2 : Int32} {p3 : Int32} {p4 : Int32} {k2 : (Nat → Int32) → (Nat → Int32) → Int32 → Option ((Nat → Int32) × (Nat → Int32))} {k18 : (Nat → Int32) → (Nat → Int32) → Int32 → Option ((Nat → Int32) × (Nat → Int32))} {k61 : (Nat → Int32) → Int32 → Option ((Nat → Int32) × (Nat → Int32))} {u_F_across : Nat → Int32} {u_F_bareLight : Nat → Int32} (C0 : kC p s m args meth c D (kTY cI cC cZ) cX1_throwRays none 5 RX1 A) (hk2 : ∀ (F_across_k : Nat → Int32) (F_bareLight_k : Nat → Int32) (p1_k : Int32), k2 F_across_k F_bareLight_k p1_k = some (u_F_across, u_F_bareLight) → ∀ (H : Heap) (locs : List Loc), va_P D vwCl (WD2 cI cC cZ a_F a_F_table a_F_spots a_F_points a_F_walls a_F_across a_F_bareLight F_glow F_spotCount F_pointCount F_wallCount F_table F_spots F_points F_walls F_across_k F_bareLight_k) H → va_D A (WD2 cI cC cZ a_F a_F_table a_F_spots a_F_points a_F_walls a_F_across a_F_bareLight F_glow F_spotCount F_pointCount F_wallCount F_table F_spots F_points F_walls F_across_k F_bareLight_k) → va_S A s.heap H locs → ∀ ls : Array Slot, lv_has ls 5 [(0, .ref a_F), (1, .int p1_k)] → W p l e rm_X1_throwRays s m args below meth c H locs 0 0 (MQ below (kQV D (kTY cI cC cZ) A (WD2 cI cC cZ a_F a_F_table a_F_spots a_F_points a_F_walls a_F_across a_F_bareLight F_glow F_spotCount F_pointCount F_wallCount F_table F_spots F_points F_walls u_F_across u_F_bareLight)) args s 0 0 A) (F0 m 2 ls [])) (hk18 : ∀ (F_across_k : Nat → Int32) (F_bareLight_k : Nat → Int32) (p2_k : Int32), k18 F_across_k F_bareLight_k p2_k = some (u_F_across, u_F_bareLight) → ∀ (H : Heap) (locs : List Loc), va_P D vwCl (WD2 cI cC cZ a_F a_F_table a_F_spots a_F_points a_F_walls a_F_across a_F_bareLight F_glow F_spotCount F_pointCount F_wallCount F_table F_spots F_points F_walls F_across_k F_bareLight_k) H → va_D A (WD2 cI cC cZ a_F a_F_table a_F_spots a_F_points a_F_walls a_F_across a_F_bareLight F_glow F_spotCount F_pointCount F_wallCount F_table F_spots F_points F_walls F_across_k F_bareLight_k) → va_S A s.heap H locs → ∀ ls : Array Slot, lv_has ls 5 [(0, .ref a_F), (1, .int p1), (2, .int p2_k)] → W p l e rm_X1_throwRays s m args below meth c H locs 0 0 (MQ below (kQV D (kTY cI cC cZ) A (WD2 cI cC cZ a_F a_F_table a_F_spots a_F_points a_F_walls a_F_across a_F_bareLight F_glow F_spotCount F_pointCount F_wallCount F_table F_spots F_points F_walls u_F_across u_F_bareLight)) args s 0 0 A) (F0 m 18 ls [])) (hk61 : ∀ (F_across_k : Nat → Int32) (p4_k : Int32), k61 F_across_k p4_k = some (u_F_across, u_F_bareLight) → ∀ (H : Heap) (locs : List Loc), va_P D vwCl (WD2 cI cC cZ a_F a_F_table a_F_spots a_F_points a_F_walls a_F_across a_F_bareLight F_glow F_spotCount F_pointCount F_wallCount F_table F_spots F_points F_walls F_across_k F_bareLight) H → va_D A (WD2 cI cC cZ a_F a_F_table a_F_spots a_F_points a_F_walls a_F_across a_F_bareLight F_glow F_spotCount F_pointCount F_wallCount F_table F_spots F_points F_walls F_across_k F_bareLight) → va_S A s.heap H locs → ∀ ls : Array Slot, lv_has ls 5 [(0, .ref a_F), (1, .int p1), (2, .int p2), (3, .int p3), (4, .int p4_k)] → W p l e rm_X1_throwRays s m args below meth c H locs 0 0 (MQ below (kQV D (kTY cI cC cZ) A (WD2 cI cC cZ a_F a_F_table a_F_spots a_F_points a_F_walls a_F_across a_F_bareLight F_glow F_spotCount F_pointCount F_wallCount F_table F_spots F_points F_walls u_F_across u_F_bareLight)) args s 0 0 A) (F0 m 61 ls [])) (h : bk_X1_throwRays_61 k2 k18 k61 F_spotCount F_pointCount F_wallCount F_table F_spots F_points F_walls F_bareLight p1 p2 p3 F_across p4 = some (u_F_across, u_F_bareLight)) {H : Heap} {locs : List Loc} (hP : va_P D vwCl (WD2 cI cC cZ a_F a_F_table a_F_spots a_F_points a_F_walls a_F_across a_F_bareLight F_glow F_spotCount F_pointCount F_wallCount F_table F_spots F_points F_walls F_across F_bareLight) H) (hD : va_D A (WD2 cI cC cZ a_F a_F_table a_F_spots a_F_points a_F_walls a_F_across a_F_bareLight F_glow F_spotCount F_pointCount F_wallCount F_table F_spots F_points F_walls F_across F_bareLight)) (hS : va_S A s.heap H locs) {ls : Array Slot} (hl : lv_has ls 5 [(0, .ref a_F), (1, .int p1), (2, .int p2), (3, .int p3), (4, .int p4)]) : W p l e rm_X1_throwRays s m args below meth c H locs 0 0 (MQ below (kQV D (kTY cI cC cZ) A (WD2 cI cC cZ a_F a_F_table a_F_spots a_F_points a_F_walls a_F_across a_F_bareLight F_glow F_spotCount F_pointCount F_wallCount F_table F_spots F_points F_walls u_F_across u_F_bareLight)) args s 0 0 A) (F0 m 61 ls []) := by
  obtain ⟨hx, hb, hr, hml, hown, hts, hK, hN, hA, hlocks, hF⟩ := id C0
  unfold bk_X1_throwRays_61 at h
  refine lv_iload hx hb dX1_throwRays_61 (lv_at hl 4 rfl) ?_
  refine lv_aload_n hx hb dX1_throwRays_63 rfl (lv_at hl 0 rfl) ?_
  refine va_get (D := D) (ci := 1) (v := .int F_wallCount) (C := RX1) (T := TX1) (N := 10) hx hb hts inlX1 hown hK hP 0 rfl rfl 9 (by decide) (hts _ kw_209) (fun _ h9 => h9) rfl dX1_throwRays_64 ?_
  refine lv_icmp_ge (tgt := 100) hx hb dX1_throwRays_67 (by decide) (fun c1 => ?_) (fun c1 => ?_)
  · have h := oc_t c1 h
    obtain ⟨t2, e_t2⟩ : ∃ y : Int32, y = p2 + (1 : Int32) := ⟨_, rfl⟩
    have h := oc_nm e_t2 h
    refine lv_iinc (v := t2) (lv' := [(2, .int t2), (0, .ref a_F), (1, .int p1), (3, .int p3), (4, .int p4)]) hx hb dX1_throwRays_100 hl (k := 2) rfl (by rw [e_t2]; rfl) (by decide) rfl (fun ls hl => ?_)
    refine lv_goto (tgt := 18) hx hb dX1_throwRays_103 (by decide) ?_
    exact hk18 _ _ _ h _ _ hP hD hS _ (lv_sub hl [1, 2, 0] rfl)
  · have h := oc_f c1 h
    refine lv_aload_n hx hb dX1_throwRays_70 rfl (lv_at hl 0 rfl) ?_
    refine lv_iload_n hx hb dX1_throwRays_71 rfl (lv_at hl 1 rfl) ?_
    refine lv_iload_n hx hb dX1_throwRays_72 rfl (lv_at hl 2 rfl) ?_
    refine lv_iload hx hb dX1_throwRays_73 (lv_at hl 4 rfl) ?_
    obtain ⟨r4, hc3, h⟩ := oc_bind h
    refine kro_i (wc := (WD2 cI cC cZ a_F a_F_table a_F_spots a_F_points a_F_walls a_F_across a_F_bareLight F_glow F_spotCount F_pointCount F_wallCount F_table F_spots F_points F_walls F_across F_bareLight)) C0 hP hD hS [0, 1, 2, 3, 4, 5, 6] rfl (kV (n := 3) (As := [.int p1, .int p2, .int p4]) (rest := []) (wc := (WD2 cI cC cZ a_F a_F_table a_F_spots a_F_points a_F_walls a_F_across a_F_bareLight F_glow F_spotCount F_pointCount F_wallCount F_table F_spots F_points F_walls F_across F_bareLight)) (C := RX1) C0 hP hD hS [0, 1, 2, 3, 4, 5, 6] rfl (by decide) (c_X1_meets l D cI cC cZ a_F a_F_table a_F_spots a_F_points a_F_walls a_F_across a_F_bareLight H.size F_glow F_spotCount F_pointCount F_wallCount F_table F_spots F_points F_walls F_across F_bareLight p1 p2 p4 r4 hc3) kw_235 kw_232 kw_233 kw_234 kw_19 (by decide +kernel) (by decide) rfl rfl rfl hl.1 rfl (Nat.le_of_ble_eq_true rfl) ⟨Nat.zero_le _, Nat.zero_le _⟩ dX1_throwRays_75) (fun H locs hP hS => ?_)
    refine lv_if_eq (tgt := 94) hx hb dX1_throwRays_78 (by decide) (fun c5 => ?_) (fun c5 => ?_)
    · have h := oc_t c5 h
      obtain ⟨t6, e_t6⟩ : ∃ y : Int32, y = p4 + (1 : Int32) := ⟨_, rfl⟩
      have h := oc_nm e_t6 h
      refine lv_iinc (v := t6) (lv' := [(4, .int t6), (0, .ref a_F), (1, .int p1), (2, .int p2), (3, .int p3)]) hx hb dX1_throwRays_94 hl (k := 4) rfl (by rw [e_t6]; rfl) (by decide) rfl (fun ls hl => ?_)
      refine lv_goto (tgt := 61) hx hb dX1_throwRays_97 (by decide) ?_
      exact hk61 _ _ h _ _ hP hD hS _ (lv_sub hl [1, 2, 3, 4, 0] rfl)
    · have h := oc_f c5 h
      refine lv_aload_n hx hb dX1_throwRays_81 rfl (lv_at hl 0 rfl) ?_
      refine va_get (D := D) (ci := 1) (v := .ref a_F_across) (C := RX1) (T := TX1) (N := 10) hx hb hts inlX1 hown hK hP 0 rfl rfl 4 (by decide) (hts _ kw_54) (fun _ h9 => h9) rfl dX1_throwRays_82 ?_
      refine lv_iload_n hx hb dX1_throwRays_85 rfl (lv_at hl 3 rfl) ?_
      refine lv_dup2_11 hx hb dX1_throwRays_86 rfl rfl ?_
      obtain ⟨hb7, h⟩ := oc_else h
      refine va_iald hx hb hK hP 5 0 rfl rfl hb7 dX1_throwRays_87 ?_
      refine lv_iconst (v := (1 : Int32)) hx hb dX1_throwRays_88 (by decide) ?_
      refine lv_iload hx hb dX1_throwRays_89 (lv_at hl 4 rfl) ?_
      refine lv_ishl hx hb dX1_throwRays_91 ?_
      refine lv_ior hx hb dX1_throwRays_92 ?_
      obtain ⟨hb8, h⟩ := oc_else h
      refine va_iast hx hb hK hP hD hS 5 0 rfl rfl hb8 dX1_throwRays_93 (fun H locs hP hD hS => ?_)
      have hP : va_P D vwCl (WD2 cI cC cZ a_F a_F_table a_F_spots a_F_points a_F_walls a_F_across a_F_bareLight F_glow F_spotCount F_pointCount F_wallCount F_table F_spots F_points F_walls (upd F_across (Int32.toNatClampNeg p3) ((F_across (Int32.toNatClampNeg p3)) ||| ((1 : Int32) <<< (p4 &&& 31)))) F_bareLight) H := hP
      have hD : va_D A (WD2 cI cC cZ a_F a_F_table a_F_spots a_F_points a_F_walls a_F_across a_F_bareLight F_glow F_spotCount F_pointCount F_wallCount F_table F_spots F_points F_walls (upd F_across (Int32.toNatClampNeg p3) ((F_across (Int32.toNatClampNeg p3)) ||| ((1 : Int32) <<< (p4 &&& 31)))) F_bareLight) := hD
      obtain ⟨t9, e_t9⟩ : ∃ y : Int32, y = p4 + (1 : Int32) := ⟨_, rfl⟩
      have h := oc_nm e_t9 h
      refine lv_iinc (v := t9) (lv' := [(4, .int t9), (0, .ref a_F), (1, .int p1), (2, .int p2), (3, .int p3)]) hx hb dX1_throwRays_94 hl (k := 4) rfl (by rw [e_t9]; rfl) (by decide) rfl (fun ls hl => ?_)
      refine lv_goto (tgt := 61) hx hb dX1_throwRays_97 (by decide) ?_
      exact hk61 _ _ h _ _ hP hD hS _ (lv_sub hl [1, 2, 3, 4, 0] rfl)
noncomputable def lp_X1_throwRays_61 (k2 : (Nat → Int32) → (Nat → Int32) → Int32 → Option ((Nat → Int32) × (Nat → Int32))) (k18 : (Nat → Int32) → (Nat → Int32) → Int32 → Option ((Nat → Int32) × (Nat → Int32))) (F_spotCount : Int32) (F_pointCount : Int32) (F_wallCount : Int32) (F_table : Nat → Int32) (F_spots : Nat → Int32) (F_points : Nat → Int32) (F_walls : Nat → Int32) (F_bareLight : Nat → Int32) (p1 : Int32) (p2 : Int32) (p3 : Int32) (n : Nat) : (Nat → Int32) → Int32 → Option ((Nat → Int32) × (Nat → Int32)) := Nat.rec (motive := fun _ => (Nat → Int32) → Int32 → Option ((Nat → Int32) × (Nat → Int32))) (fun _ _ => none) (fun _ ih => bk_X1_throwRays_61 k2 k18 ih F_spotCount F_pointCount F_wallCount F_table F_spots F_points F_walls F_bareLight p1 p2 p3) n
set_option maxHeartbeats 4000000 in
set_option maxRecDepth 100000 in
theorem wl_X1_throwRays_61 {p : Program} {l : Launch} {e : Env} {s : State} {m : MethodId} {args : Array Value} {below : List Frame} {meth : Method} {c : Code} {D : va_G} {cI cC cZ : ClassId} {A : Nat → Prop} {a_F a_F_table a_F_spots a_F_points a_F_walls a_F_across a_F_bareLight : Nat} {F_glow : Int32} {F_spotCount : Int32} {F_pointCount : Int32} {F_wallCount : Int32} {F_table : Nat → Int32} {F_spots : Nat → Int32} {F_points : Nat → Int32} {F_walls : Nat → Int32} {F_bareLight : Nat → Int32} {p1 : Int32} {p2 : Int32} {p3 : Int32} {k2 : (Nat → Int32) → (Nat → Int32) → Int32 → Option ((Nat → Int32) × (Nat → Int32))} {k18 : (Nat → Int32) → (Nat → Int32) → Int32 → Option ((Nat → Int32) × (Nat → Int32))} {u_F_across : Nat → Int32} {u_F_bareLight : Nat → Int32} (C0 : kC p s m args meth c D (kTY cI cC cZ) cX1_throwRays none 5 RX1 A) (hk2 : ∀ (F_across_k : Nat → Int32) (F_bareLight_k : Nat → Int32) (p1_k : Int32), k2 F_across_k F_bareLight_k p1_k = some (u_F_across, u_F_bareLight) → ∀ (H : Heap) (locs : List Loc), va_P D vwCl (WD2 cI cC cZ a_F a_F_table a_F_spots a_F_points a_F_walls a_F_across a_F_bareLight F_glow F_spotCount F_pointCount F_wallCount F_table F_spots F_points F_walls F_across_k F_bareLight_k) H → va_D A (WD2 cI cC cZ a_F a_F_table a_F_spots a_F_points a_F_walls a_F_across a_F_bareLight F_glow F_spotCount F_pointCount F_wallCount F_table F_spots F_points F_walls F_across_k F_bareLight_k) → va_S A s.heap H locs → ∀ ls : Array Slot, lv_has ls 5 [(0, .ref a_F), (1, .int p1_k)] → W p l e rm_X1_throwRays s m args below meth c H locs 0 0 (MQ below (kQV D (kTY cI cC cZ) A (WD2 cI cC cZ a_F a_F_table a_F_spots a_F_points a_F_walls a_F_across a_F_bareLight F_glow F_spotCount F_pointCount F_wallCount F_table F_spots F_points F_walls u_F_across u_F_bareLight)) args s 0 0 A) (F0 m 2 ls [])) (hk18 : ∀ (F_across_k : Nat → Int32) (F_bareLight_k : Nat → Int32) (p2_k : Int32), k18 F_across_k F_bareLight_k p2_k = some (u_F_across, u_F_bareLight) → ∀ (H : Heap) (locs : List Loc), va_P D vwCl (WD2 cI cC cZ a_F a_F_table a_F_spots a_F_points a_F_walls a_F_across a_F_bareLight F_glow F_spotCount F_pointCount F_wallCount F_table F_spots F_points F_walls F_across_k F_bareLight_k) H → va_D A (WD2 cI cC cZ a_F a_F_table a_F_spots a_F_points a_F_walls a_F_across a_F_bareLight F_glow F_spotCount F_pointCount F_wallCount F_table F_spots F_points F_walls F_across_k F_bareLight_k) → va_S A s.heap H locs → ∀ ls : Array Slot, lv_has ls 5 [(0, .ref a_F), (1, .int p1), (2, .int p2_k)] → W p l e rm_X1_throwRays s m args below meth c H locs 0 0 (MQ below (kQV D (kTY cI cC cZ) A (WD2 cI cC cZ a_F a_F_table a_F_spots a_F_points a_F_walls a_F_across a_F_bareLight F_glow F_spotCount F_pointCount F_wallCount F_table F_spots F_points F_walls u_F_across u_F_bareLight)) args s 0 0 A) (F0 m 18 ls [])) : ∀ (n : Nat) (F_across : Nat → Int32) (p4 : Int32), lp_X1_throwRays_61 k2 k18 F_spotCount F_pointCount F_wallCount F_table F_spots F_points F_walls F_bareLight p1 p2 p3 n F_across p4 = some (u_F_across, u_F_bareLight) → ∀ (H : Heap) (locs : List Loc), va_P D vwCl (WD2 cI cC cZ a_F a_F_table a_F_spots a_F_points a_F_walls a_F_across a_F_bareLight F_glow F_spotCount F_pointCount F_wallCount F_table F_spots F_points F_walls F_across F_bareLight) H → va_D A (WD2 cI cC cZ a_F a_F_table a_F_spots a_F_points a_F_walls a_F_across a_F_bareLight F_glow F_spotCount F_pointCount F_wallCount F_table F_spots F_points F_walls F_across F_bareLight) → va_S A s.heap H locs → ∀ ls : Array Slot, lv_has ls 5 [(0, .ref a_F), (1, .int p1), (2, .int p2), (3, .int p3), (4, .int p4)] → W p l e rm_X1_throwRays s m args below meth c H locs 0 0 (MQ below (kQV D (kTY cI cC cZ) A (WD2 cI cC cZ a_F a_F_table a_F_spots a_F_points a_F_walls a_F_across a_F_bareLight F_glow F_spotCount F_pointCount F_wallCount F_table F_spots F_points F_walls u_F_across u_F_bareLight)) args s 0 0 A) (F0 m 61 ls []) := by
  intro n
  induction n with
  | zero => intro F_across p4 h; cases (show (none : Option ((Nat → Int32) × (Nat → Int32))) = some _ from h)
  | succ n ih =>
    intro F_across p4 h H locs hP hD hS ls hl
    exact wk_X1_throwRays_61 C0 hk2 hk18 (fun F_across p4 h H locs hP hD hS ls hl => ih F_across p4 h H locs hP hD hS ls hl) (show bk_X1_throwRays_61 k2 k18 (lp_X1_throwRays_61 k2 k18 F_spotCount F_pointCount F_wallCount F_table F_spots F_points F_walls F_bareLight p1 p2 p3 n) F_spotCount F_pointCount F_wallCount F_table F_spots F_points F_walls F_bareLight p1 p2 p3 F_across p4 = some _ from h) hP hD hS hl
noncomputable def bk_X1_throwRays_18 (k2 : (Nat → Int32) → (Nat → Int32) → Int32 → Option ((Nat → Int32) × (Nat → Int32))) (k18 : (Nat → Int32) → (Nat → Int32) → Int32 → Option ((Nat → Int32) × (Nat → Int32))) (F_spotCount : Int32) (F_pointCount : Int32) (F_wallCount : Int32) (F_table : Nat → Int32) (F_spots : Nat → Int32) (F_points : Nat → Int32) (F_walls : Nat → Int32) (p1 : Int32) (F_across : Nat → Int32) (F_bareLight : Nat → Int32) (p2 : Int32) : Option ((Nat → Int32) × (Nat → Int32)) := if F_pointCount ≤ p2 then (nm_ (p1 + (1 : Int32)) (fun t2 => k2 F_across F_bareLight t2)) else (if (6 : Int32) ≤ p2 then (nm_ (p1 + (1 : Int32)) (fun t4 => k2 F_across F_bareLight t4)) else (nm_ ((p1 * (6 : Int32)) + p2) (fun t5 => (f_X1_lightWithoutWalls F_table F_spots F_points p1 p2).bind (fun r7 => if (t5 < 0 ∨ 48 ≤ Int32.toNatClampNeg t5) then none else (if (t5 < 0 ∨ 48 ≤ Int32.toNatClampNeg t5) then none else (lp_X1_throwRays_61 k2 k18 F_spotCount F_pointCount F_wallCount F_table F_spots F_points F_walls (upd F_bareLight (Int32.toNatClampNeg t5) r7) p1 p2 t5 1000 (upd F_across (Int32.toNatClampNeg t5) (0 : Int32)) (0 : Int32)))))))
set_option maxHeartbeats 4000000 in
set_option maxRecDepth 100000 in
theorem wk_X1_throwRays_18 {p : Program} {l : Launch} {e : Env} {s : State} {m : MethodId} {args : Array Value} {below : List Frame} {meth : Method} {c : Code} {D : va_G} {cI cC cZ : ClassId} {A : Nat → Prop} {a_F a_F_table a_F_spots a_F_points a_F_walls a_F_across a_F_bareLight : Nat} {F_glow : Int32} {F_spotCount : Int32} {F_pointCount : Int32} {F_wallCount : Int32} {F_table : Nat → Int32} {F_spots : Nat → Int32} {F_points : Nat → Int32} {F_walls : Nat → Int32} {F_across : Nat → Int32} {F_bareLight : Nat → Int32} {p1 : Int32} {p2 : Int32} {k2 : (Nat → Int32) → (Nat → Int32) → Int32 → Option ((Nat → Int32) × (Nat → Int32))} {k18 : (Nat → Int32) → (Nat → Int32) → Int32 → Option ((Nat → Int32) × (Nat → Int32))} {u_F_across : Nat → Int32} {u_F_bareLight : Nat → Int32} (C0 : kC p s m args meth c D (kTY cI cC cZ) cX1_throwRays none 5 RX1 A) (hk2 : ∀ (F_across_k : Nat → Int32) (F_bareLight_k : Nat → Int32) (p1_k : Int32), k2 F_across_k F_bareLight_k p1_k = some (u_F_across, u_F_bareLight) → ∀ (H : Heap) (locs : List Loc), va_P D vwCl (WD2 cI cC cZ a_F a_F_table a_F_spots a_F_points a_F_walls a_F_across a_F_bareLight F_glow F_spotCount F_pointCount F_wallCount F_table F_spots F_points F_walls F_across_k F_bareLight_k) H → va_D A (WD2 cI cC cZ a_F a_F_table a_F_spots a_F_points a_F_walls a_F_across a_F_bareLight F_glow F_spotCount F_pointCount F_wallCount F_table F_spots F_points F_walls F_across_k F_bareLight_k) → va_S A s.heap H locs → ∀ ls : Array Slot, lv_has ls 5 [(0, .ref a_F), (1, .int p1_k)] → W p l e rm_X1_throwRays s m args below meth c H locs 0 0 (MQ below (kQV D (kTY cI cC cZ) A (WD2 cI cC cZ a_F a_F_table a_F_spots a_F_points a_F_walls a_F_across a_F_bareLight F_glow F_spotCount F_pointCount F_wallCount F_table F_spots F_points F_walls u_F_across u_F_bareLight)) args s 0 0 A) (F0 m 2 ls [])) (hk18 : ∀ (F_across_k : Nat → Int32) (F_bareLight_k : Nat → Int32) (p2_k : Int32), k18 F_across_k F_bareLight_k p2_k = some (u_F_across, u_F_bareLight) → ∀ (H : Heap) (locs : List Loc), va_P D vwCl (WD2 cI cC cZ a_F a_F_table a_F_spots a_F_points a_F_walls a_F_across a_F_bareLight F_glow F_spotCount F_pointCount F_wallCount F_table F_spots F_points F_walls F_across_k F_bareLight_k) H → va_D A (WD2 cI cC cZ a_F a_F_table a_F_spots a_F_points a_F_walls a_F_across a_F_bareLight F_glow F_spotCount F_pointCount F_wallCount F_table F_spots F_points F_walls F_across_k F_bareLight_k) → va_S A s.heap H locs → ∀ ls : Array Slot, lv_has ls 5 [(0, .ref a_F), (1, .int p1), (2, .int p2_k)] → W p l e rm_X1_throwRays s m args below meth c H locs 0 0 (MQ below (kQV D (kTY cI cC cZ) A (WD2 cI cC cZ a_F a_F_table a_F_spots a_F_points a_F_walls a_F_across a_F_bareLight F_glow F_spotCount F_pointCount F_wallCount F_table F_spots F_points F_walls u_F_across u_F_bareLight)) args s 0 0 A) (F0 m 18 ls [])) (h : bk_X1_throwRays_18 k2 k18 F_spotCount F_pointCount F_wallCount F_table F_spots F_points F_walls p1 F_across F_bareLight p2 = some (u_F_across, u_F_bareLight)) {H : Heap} {locs : List Loc} (hP : va_P D vwCl (WD2 cI cC cZ a_F a_F_table a_F_spots a_F_points a_F_walls a_F_across a_F_bareLight F_glow F_spotCount F_pointCount F_wallCount F_table F_spots F_points F_walls F_across F_bareLight) H) (hD : va_D A (WD2 cI cC cZ a_F a_F_table a_F_spots a_F_points a_F_walls a_F_across a_F_bareLight F_glow F_spotCount F_pointCount F_wallCount F_table F_spots F_points F_walls F_across F_bareLight)) (hS : va_S A s.heap H locs) {ls : Array Slot} (hl : lv_has ls 5 [(0, .ref a_F), (1, .int p1), (2, .int p2)]) : W p l e rm_X1_throwRays s m args below meth c H locs 0 0 (MQ below (kQV D (kTY cI cC cZ) A (WD2 cI cC cZ a_F a_F_table a_F_spots a_F_points a_F_walls a_F_across a_F_bareLight F_glow F_spotCount F_pointCount F_wallCount F_table F_spots F_points F_walls u_F_across u_F_bareLight)) args s 0 0 A) (F0 m 18 ls []) := by
  obtain ⟨hx, hb, hr, hml, hown, hts, hK, hN, hA, hlocks, hF⟩ := id C0
  unfold bk_X1_throwRays_18 at h
  refine lv_iload_n hx hb dX1_throwRays_18 rfl (lv_at hl 2 rfl) ?_
  refine lv_aload_n hx hb dX1_throwRays_19 rfl (lv_at hl 0 rfl) ?_
  refine va_get (D := D) (ci := 1) (v := .int F_pointCount) (C := RX1) (T := TX1) (N := 10) hx hb hts inlX1 hown hK hP 0 rfl rfl 8 (by decide) (hts _ kw_208) (fun _ h9 => h9) rfl dX1_throwRays_20 ?_
  refine lv_icmp_ge (tgt := 106) hx hb dX1_throwRays_23 (by decide) (fun c1 => ?_) (fun c1 => ?_)
  · have h := oc_t c1 h
    obtain ⟨t2, e_t2⟩ : ∃ y : Int32, y = p1 + (1 : Int32) := ⟨_, rfl⟩
    have h := oc_nm e_t2 h
    refine lv_iinc (v := t2) (lv' := [(1, .int t2), (0, .ref a_F), (2, .int p2)]) hx hb dX1_throwRays_106 hl (k := 1) rfl (by rw [e_t2]; rfl) (by decide) rfl (fun ls hl => ?_)
    refine lv_goto (tgt := 2) hx hb dX1_throwRays_109 (by decide) ?_
    exact hk2 _ _ _ h _ _ hP hD hS _ (lv_sub hl [1, 0] rfl)
  · have h := oc_f c1 h
    refine lv_iload_n hx hb dX1_throwRays_26 rfl (lv_at hl 2 rfl) ?_
    refine lv_bipush (v := (6 : Int32)) hx hb dX1_throwRays_27 (by decide) ?_
    refine lv_icmp_ge (tgt := 106) hx hb dX1_throwRays_29 (by decide) (fun c3 => ?_) (fun c3 => ?_)
    · have h := oc_t c3 h
      obtain ⟨t4, e_t4⟩ : ∃ y : Int32, y = p1 + (1 : Int32) := ⟨_, rfl⟩
      have h := oc_nm e_t4 h
      refine lv_iinc (v := t4) (lv' := [(1, .int t4), (0, .ref a_F), (2, .int p2)]) hx hb dX1_throwRays_106 hl (k := 1) rfl (by rw [e_t4]; rfl) (by decide) rfl (fun ls hl => ?_)
      refine lv_goto (tgt := 2) hx hb dX1_throwRays_109 (by decide) ?_
      exact hk2 _ _ _ h _ _ hP hD hS _ (lv_sub hl [1, 0] rfl)
    · have h := oc_f c3 h
      refine lv_iload_n hx hb dX1_throwRays_32 rfl (lv_at hl 1 rfl) ?_
      refine lv_bipush (v := (6 : Int32)) hx hb dX1_throwRays_33 (by decide) ?_
      refine lv_imul hx hb dX1_throwRays_35 ?_
      refine lv_iload_n hx hb dX1_throwRays_36 rfl (lv_at hl 2 rfl) ?_
      refine lv_iadd hx hb dX1_throwRays_37 ?_
      refine lv_topi (fun t5 e_t5 => ?_)
      have h := oc_nm e_t5 h
      refine lv_istore_n (lv' := [(3, .int t5), (0, .ref a_F), (1, .int p1), (2, .int p2)]) hx hb dX1_throwRays_38 rfl hl (by decide) rfl (fun ls hl => ?_)
      refine lv_aload_n hx hb dX1_throwRays_39 rfl (lv_at hl 1 rfl) ?_
      refine va_get (D := D) (ci := 1) (v := .ref a_F_bareLight) (C := RX1) (T := TX1) (N := 10) hx hb hts inlX1 hown hK hP 0 rfl rfl 5 (by decide) (hts _ kw_55) (fun _ h9 => h9) rfl dX1_throwRays_40 ?_
      refine lv_iload_n hx hb dX1_throwRays_43 rfl (lv_at hl 0 rfl) ?_
      refine lv_aload_n hx hb dX1_throwRays_44 rfl (lv_at hl 1 rfl) ?_
      refine lv_iload_n hx hb dX1_throwRays_45 rfl (lv_at hl 2 rfl) ?_
      refine lv_iload_n hx hb dX1_throwRays_46 rfl (lv_at hl 3 rfl) ?_
      obtain ⟨r7, hc6, h⟩ := oc_bind h
      refine kro_i (wc := (WD2 cI cC cZ a_F a_F_table a_F_spots a_F_points a_F_walls a_F_across a_F_bareLight F_glow F_spotCount F_pointCount F_wallCount F_table F_spots F_points F_walls F_across F_bareLight)) C0 hP hD hS [0, 1, 2, 3, 4, 5, 6] rfl (kV (n := 2) (As := [.int p1, .int p2]) (rest := [.int t5, .ref a_F_bareLight]) (wc := (WD2 cI cC cZ a_F a_F_table a_F_spots a_F_points a_F_walls a_F_across a_F_bareLight F_glow F_spotCount F_pointCount F_wallCount F_table F_spots F_points F_walls F_across F_bareLight)) (C := RX1) C0 hP hD hS [0, 1, 2, 3, 4, 5, 6] rfl (by decide) (c_X1_lightWithoutWalls l D cI cC cZ a_F a_F_table a_F_spots a_F_points a_F_walls a_F_across a_F_bareLight H.size F_glow F_spotCount F_pointCount F_wallCount F_table F_spots F_points F_walls F_across F_bareLight p1 p2 r7 hc6) kw_220 kw_217 kw_218 kw_219 kw_19 (by decide +kernel) (by decide) rfl rfl rfl hl.1 rfl (Nat.le_of_ble_eq_true rfl) ⟨Nat.zero_le _, Nat.zero_le _⟩ dX1_throwRays_47) (fun H locs hP hS => ?_)
      obtain ⟨hb8, h⟩ := oc_else h
      refine va_iast hx hb hK hP hD hS 6 0 rfl rfl hb8 dX1_throwRays_50 (fun H locs hP hD hS => ?_)
      have hP : va_P D vwCl (WD2 cI cC cZ a_F a_F_table a_F_spots a_F_points a_F_walls a_F_across a_F_bareLight F_glow F_spotCount F_pointCount F_wallCount F_table F_spots F_points F_walls F_across (upd F_bareLight (Int32.toNatClampNeg t5) r7)) H := hP
      have hD : va_D A (WD2 cI cC cZ a_F a_F_table a_F_spots a_F_points a_F_walls a_F_across a_F_bareLight F_glow F_spotCount F_pointCount F_wallCount F_table F_spots F_points F_walls F_across (upd F_bareLight (Int32.toNatClampNeg t5) r7)) := hD
      refine lv_aload_n hx hb dX1_throwRays_51 rfl (lv_at hl 1 rfl) ?_
      refine va_get (D := D) (ci := 1) (v := .ref a_F_across) (C := RX1) (T := TX1) (N := 10) hx hb hts inlX1 hown hK hP 0 rfl rfl 4 (by decide) (hts _ kw_54) (fun _ h9 => h9) rfl dX1_throwRays_52 ?_
      refine lv_iload_n hx hb dX1_throwRays_55 rfl (lv_at hl 0 rfl) ?_
      refine lv_iconst (v := (0 : Int32)) hx hb dX1_throwRays_56 (by decide) ?_
      obtain ⟨hb9, h⟩ := oc_else h
      refine va_iast hx hb hK hP hD hS 5 0 rfl rfl hb9 dX1_throwRays_57 (fun H locs hP hD hS => ?_)
      have hP : va_P D vwCl (WD2 cI cC cZ a_F a_F_table a_F_spots a_F_points a_F_walls a_F_across a_F_bareLight F_glow F_spotCount F_pointCount F_wallCount F_table F_spots F_points F_walls (upd F_across (Int32.toNatClampNeg t5) (0 : Int32)) (upd F_bareLight (Int32.toNatClampNeg t5) r7)) H := hP
      have hD : va_D A (WD2 cI cC cZ a_F a_F_table a_F_spots a_F_points a_F_walls a_F_across a_F_bareLight F_glow F_spotCount F_pointCount F_wallCount F_table F_spots F_points F_walls (upd F_across (Int32.toNatClampNeg t5) (0 : Int32)) (upd F_bareLight (Int32.toNatClampNeg t5) r7)) := hD
      refine lv_iconst (v := (0 : Int32)) hx hb dX1_throwRays_58 (by decide) ?_
      refine lv_istore (lv' := [(4, .int (0 : Int32)), (3, .int t5), (0, .ref a_F), (1, .int p1), (2, .int p2)]) hx hb dX1_throwRays_59 hl (by decide) rfl (fun ls hl => ?_)
      exact wl_X1_throwRays_61 C0 hk2 hk18 _ _ _ h _ _ hP hD hS _ (lv_sub hl [2, 3, 4, 1, 0] rfl)
noncomputable def lp_X1_throwRays_18 (k2 : (Nat → Int32) → (Nat → Int32) → Int32 → Option ((Nat → Int32) × (Nat → Int32))) (F_spotCount : Int32) (F_pointCount : Int32) (F_wallCount : Int32) (F_table : Nat → Int32) (F_spots : Nat → Int32) (F_points : Nat → Int32) (F_walls : Nat → Int32) (p1 : Int32) (n : Nat) : (Nat → Int32) → (Nat → Int32) → Int32 → Option ((Nat → Int32) × (Nat → Int32)) := Nat.rec (motive := fun _ => (Nat → Int32) → (Nat → Int32) → Int32 → Option ((Nat → Int32) × (Nat → Int32))) (fun _ _ _ => none) (fun _ ih => bk_X1_throwRays_18 k2 ih F_spotCount F_pointCount F_wallCount F_table F_spots F_points F_walls p1) n
set_option maxHeartbeats 4000000 in
set_option maxRecDepth 100000 in
theorem wl_X1_throwRays_18 {p : Program} {l : Launch} {e : Env} {s : State} {m : MethodId} {args : Array Value} {below : List Frame} {meth : Method} {c : Code} {D : va_G} {cI cC cZ : ClassId} {A : Nat → Prop} {a_F a_F_table a_F_spots a_F_points a_F_walls a_F_across a_F_bareLight : Nat} {F_glow : Int32} {F_spotCount : Int32} {F_pointCount : Int32} {F_wallCount : Int32} {F_table : Nat → Int32} {F_spots : Nat → Int32} {F_points : Nat → Int32} {F_walls : Nat → Int32} {p1 : Int32} {k2 : (Nat → Int32) → (Nat → Int32) → Int32 → Option ((Nat → Int32) × (Nat → Int32))} {u_F_across : Nat → Int32} {u_F_bareLight : Nat → Int32} (C0 : kC p s m args meth c D (kTY cI cC cZ) cX1_throwRays none 5 RX1 A) (hk2 : ∀ (F_across_k : Nat → Int32) (F_bareLight_k : Nat → Int32) (p1_k : Int32), k2 F_across_k F_bareLight_k p1_k = some (u_F_across, u_F_bareLight) → ∀ (H : Heap) (locs : List Loc), va_P D vwCl (WD2 cI cC cZ a_F a_F_table a_F_spots a_F_points a_F_walls a_F_across a_F_bareLight F_glow F_spotCount F_pointCount F_wallCount F_table F_spots F_points F_walls F_across_k F_bareLight_k) H → va_D A (WD2 cI cC cZ a_F a_F_table a_F_spots a_F_points a_F_walls a_F_across a_F_bareLight F_glow F_spotCount F_pointCount F_wallCount F_table F_spots F_points F_walls F_across_k F_bareLight_k) → va_S A s.heap H locs → ∀ ls : Array Slot, lv_has ls 5 [(0, .ref a_F), (1, .int p1_k)] → W p l e rm_X1_throwRays s m args below meth c H locs 0 0 (MQ below (kQV D (kTY cI cC cZ) A (WD2 cI cC cZ a_F a_F_table a_F_spots a_F_points a_F_walls a_F_across a_F_bareLight F_glow F_spotCount F_pointCount F_wallCount F_table F_spots F_points F_walls u_F_across u_F_bareLight)) args s 0 0 A) (F0 m 2 ls [])) : ∀ (n : Nat) (F_across : Nat → Int32) (F_bareLight : Nat → Int32) (p2 : Int32), lp_X1_throwRays_18 k2 F_spotCount F_pointCount F_wallCount F_table F_spots F_points F_walls p1 n F_across F_bareLight p2 = some (u_F_across, u_F_bareLight) → ∀ (H : Heap) (locs : List Loc), va_P D vwCl (WD2 cI cC cZ a_F a_F_table a_F_spots a_F_points a_F_walls a_F_across a_F_bareLight F_glow F_spotCount F_pointCount F_wallCount F_table F_spots F_points F_walls F_across F_bareLight) H → va_D A (WD2 cI cC cZ a_F a_F_table a_F_spots a_F_points a_F_walls a_F_across a_F_bareLight F_glow F_spotCount F_pointCount F_wallCount F_table F_spots F_points F_walls F_across F_bareLight) → va_S A s.heap H locs → ∀ ls : Array Slot, lv_has ls 5 [(0, .ref a_F), (1, .int p1), (2, .int p2)] → W p l e rm_X1_throwRays s m args below meth c H locs 0 0 (MQ below (kQV D (kTY cI cC cZ) A (WD2 cI cC cZ a_F a_F_table a_F_spots a_F_points a_F_walls a_F_across a_F_bareLight F_glow F_spotCount F_pointCount F_wallCount F_table F_spots F_points F_walls u_F_across u_F_bareLight)) args s 0 0 A) (F0 m 18 ls []) := by
  intro n
  induction n with
  | zero => intro F_across F_bareLight p2 h; cases (show (none : Option ((Nat → Int32) × (Nat → Int32))) = some _ from h)
  | succ n ih =>
    intro F_across F_bareLight p2 h H locs hP hD hS ls hl
    exact wk_X1_throwRays_18 C0 hk2 (fun F_across F_bareLight p2 h H locs hP hD hS ls hl => ih F_across F_bareLight p2 h H locs hP hD hS ls hl) (show bk_X1_throwRays_18 k2 (lp_X1_throwRays_18 k2 F_spotCount F_pointCount F_wallCount F_table F_spots F_points F_walls p1 n) F_spotCount F_pointCount F_wallCount F_table F_spots F_points F_walls p1 F_across F_bareLight p2 = some _ from h) hP hD hS hl
noncomputable def bk_X1_throwRays_2 (k2 : (Nat → Int32) → (Nat → Int32) → Int32 → Option ((Nat → Int32) × (Nat → Int32))) (F_spotCount : Int32) (F_pointCount : Int32) (F_wallCount : Int32) (F_table : Nat → Int32) (F_spots : Nat → Int32) (F_points : Nat → Int32) (F_walls : Nat → Int32) (F_across : Nat → Int32) (F_bareLight : Nat → Int32) (p1 : Int32) : Option ((Nat → Int32) × (Nat → Int32)) := if F_spotCount ≤ p1 then (some (F_across, F_bareLight)) else (if (8 : Int32) ≤ p1 then (some (F_across, F_bareLight)) else (lp_X1_throwRays_18 k2 F_spotCount F_pointCount F_wallCount F_table F_spots F_points F_walls p1 1000 F_across F_bareLight (0 : Int32)))
set_option maxHeartbeats 4000000 in
set_option maxRecDepth 100000 in
theorem wk_X1_throwRays_2 {p : Program} {l : Launch} {e : Env} {s : State} {m : MethodId} {args : Array Value} {below : List Frame} {meth : Method} {c : Code} {D : va_G} {cI cC cZ : ClassId} {A : Nat → Prop} {a_F a_F_table a_F_spots a_F_points a_F_walls a_F_across a_F_bareLight : Nat} {F_glow : Int32} {F_spotCount : Int32} {F_pointCount : Int32} {F_wallCount : Int32} {F_table : Nat → Int32} {F_spots : Nat → Int32} {F_points : Nat → Int32} {F_walls : Nat → Int32} {F_across : Nat → Int32} {F_bareLight : Nat → Int32} {p1 : Int32} {k2 : (Nat → Int32) → (Nat → Int32) → Int32 → Option ((Nat → Int32) × (Nat → Int32))} {u_F_across : Nat → Int32} {u_F_bareLight : Nat → Int32} (C0 : kC p s m args meth c D (kTY cI cC cZ) cX1_throwRays none 5 RX1 A) (hk2 : ∀ (F_across_k : Nat → Int32) (F_bareLight_k : Nat → Int32) (p1_k : Int32), k2 F_across_k F_bareLight_k p1_k = some (u_F_across, u_F_bareLight) → ∀ (H : Heap) (locs : List Loc), va_P D vwCl (WD2 cI cC cZ a_F a_F_table a_F_spots a_F_points a_F_walls a_F_across a_F_bareLight F_glow F_spotCount F_pointCount F_wallCount F_table F_spots F_points F_walls F_across_k F_bareLight_k) H → va_D A (WD2 cI cC cZ a_F a_F_table a_F_spots a_F_points a_F_walls a_F_across a_F_bareLight F_glow F_spotCount F_pointCount F_wallCount F_table F_spots F_points F_walls F_across_k F_bareLight_k) → va_S A s.heap H locs → ∀ ls : Array Slot, lv_has ls 5 [(0, .ref a_F), (1, .int p1_k)] → W p l e rm_X1_throwRays s m args below meth c H locs 0 0 (MQ below (kQV D (kTY cI cC cZ) A (WD2 cI cC cZ a_F a_F_table a_F_spots a_F_points a_F_walls a_F_across a_F_bareLight F_glow F_spotCount F_pointCount F_wallCount F_table F_spots F_points F_walls u_F_across u_F_bareLight)) args s 0 0 A) (F0 m 2 ls [])) (h : bk_X1_throwRays_2 k2 F_spotCount F_pointCount F_wallCount F_table F_spots F_points F_walls F_across F_bareLight p1 = some (u_F_across, u_F_bareLight)) {H : Heap} {locs : List Loc} (hP : va_P D vwCl (WD2 cI cC cZ a_F a_F_table a_F_spots a_F_points a_F_walls a_F_across a_F_bareLight F_glow F_spotCount F_pointCount F_wallCount F_table F_spots F_points F_walls F_across F_bareLight) H) (hD : va_D A (WD2 cI cC cZ a_F a_F_table a_F_spots a_F_points a_F_walls a_F_across a_F_bareLight F_glow F_spotCount F_pointCount F_wallCount F_table F_spots F_points F_walls F_across F_bareLight)) (hS : va_S A s.heap H locs) {ls : Array Slot} (hl : lv_has ls 5 [(0, .ref a_F), (1, .int p1)]) : W p l e rm_X1_throwRays s m args below meth c H locs 0 0 (MQ below (kQV D (kTY cI cC cZ) A (WD2 cI cC cZ a_F a_F_table a_F_spots a_F_points a_F_walls a_F_across a_F_bareLight F_glow F_spotCount F_pointCount F_wallCount F_table F_spots F_points F_walls u_F_across u_F_bareLight)) args s 0 0 A) (F0 m 2 ls []) := by
  obtain ⟨hx, hb, hr, hml, hown, hts, hK, hN, hA, hlocks, hF⟩ := id C0
  unfold bk_X1_throwRays_2 at h
  refine lv_iload_n hx hb dX1_throwRays_2 rfl (lv_at hl 1 rfl) ?_
  refine lv_aload_n hx hb dX1_throwRays_3 rfl (lv_at hl 0 rfl) ?_
  refine va_get (D := D) (ci := 1) (v := .int F_spotCount) (C := RX1) (T := TX1) (N := 10) hx hb hts inlX1 hown hK hP 0 rfl rfl 7 (by decide) (hts _ kw_207) (fun _ h9 => h9) rfl dX1_throwRays_4 ?_
  refine lv_icmp_ge (tgt := 112) hx hb dX1_throwRays_7 (by decide) (fun c1 => ?_) (fun c1 => ?_)
  · have h := oc_t c1 h
    cases h
    exact kret_v C0 hP hD hS dX1_throwRays_112
  · have h := oc_f c1 h
    refine lv_iload_n hx hb dX1_throwRays_10 rfl (lv_at hl 1 rfl) ?_
    refine lv_bipush (v := (8 : Int32)) hx hb dX1_throwRays_11 (by decide) ?_
    refine lv_icmp_ge (tgt := 112) hx hb dX1_throwRays_13 (by decide) (fun c2 => ?_) (fun c2 => ?_)
    · have h := oc_t c2 h
      cases h
      exact kret_v C0 hP hD hS dX1_throwRays_112
    · have h := oc_f c2 h
      refine lv_iconst (v := (0 : Int32)) hx hb dX1_throwRays_16 (by decide) ?_
      refine lv_istore_n (lv' := [(2, .int (0 : Int32)), (0, .ref a_F), (1, .int p1)]) hx hb dX1_throwRays_17 rfl hl (by decide) rfl (fun ls hl => ?_)
      exact wl_X1_throwRays_18 C0 hk2 _ _ _ _ h _ _ hP hD hS _ (lv_sub hl [1, 2, 0] rfl)
noncomputable def lp_X1_throwRays_2  (F_spotCount : Int32) (F_pointCount : Int32) (F_wallCount : Int32) (F_table : Nat → Int32) (F_spots : Nat → Int32) (F_points : Nat → Int32) (F_walls : Nat → Int32) (n : Nat) : (Nat → Int32) → (Nat → Int32) → Int32 → Option ((Nat → Int32) × (Nat → Int32)) := Nat.rec (motive := fun _ => (Nat → Int32) → (Nat → Int32) → Int32 → Option ((Nat → Int32) × (Nat → Int32))) (fun _ _ _ => none) (fun _ ih => bk_X1_throwRays_2  ih F_spotCount F_pointCount F_wallCount F_table F_spots F_points F_walls) n
set_option maxHeartbeats 4000000 in
set_option maxRecDepth 100000 in
theorem wl_X1_throwRays_2 {p : Program} {l : Launch} {e : Env} {s : State} {m : MethodId} {args : Array Value} {below : List Frame} {meth : Method} {c : Code} {D : va_G} {cI cC cZ : ClassId} {A : Nat → Prop} {a_F a_F_table a_F_spots a_F_points a_F_walls a_F_across a_F_bareLight : Nat} {F_glow : Int32} {F_spotCount : Int32} {F_pointCount : Int32} {F_wallCount : Int32} {F_table : Nat → Int32} {F_spots : Nat → Int32} {F_points : Nat → Int32} {F_walls : Nat → Int32}  {u_F_across : Nat → Int32} {u_F_bareLight : Nat → Int32} (C0 : kC p s m args meth c D (kTY cI cC cZ) cX1_throwRays none 5 RX1 A)  : ∀ (n : Nat) (F_across : Nat → Int32) (F_bareLight : Nat → Int32) (p1 : Int32), lp_X1_throwRays_2  F_spotCount F_pointCount F_wallCount F_table F_spots F_points F_walls n F_across F_bareLight p1 = some (u_F_across, u_F_bareLight) → ∀ (H : Heap) (locs : List Loc), va_P D vwCl (WD2 cI cC cZ a_F a_F_table a_F_spots a_F_points a_F_walls a_F_across a_F_bareLight F_glow F_spotCount F_pointCount F_wallCount F_table F_spots F_points F_walls F_across F_bareLight) H → va_D A (WD2 cI cC cZ a_F a_F_table a_F_spots a_F_points a_F_walls a_F_across a_F_bareLight F_glow F_spotCount F_pointCount F_wallCount F_table F_spots F_points F_walls F_across F_bareLight) → va_S A s.heap H locs → ∀ ls : Array Slot, lv_has ls 5 [(0, .ref a_F), (1, .int p1)] → W p l e rm_X1_throwRays s m args below meth c H locs 0 0 (MQ below (kQV D (kTY cI cC cZ) A (WD2 cI cC cZ a_F a_F_table a_F_spots a_F_points a_F_walls a_F_across a_F_bareLight F_glow F_spotCount F_pointCount F_wallCount F_table F_spots F_points F_walls u_F_across u_F_bareLight)) args s 0 0 A) (F0 m 2 ls []) := by
  intro n
  induction n with
  | zero => intro F_across F_bareLight p1 h; cases (show (none : Option ((Nat → Int32) × (Nat → Int32))) = some _ from h)
  | succ n ih =>
    intro F_across F_bareLight p1 h H locs hP hD hS ls hl
    exact wk_X1_throwRays_2 C0  (fun F_across F_bareLight p1 h H locs hP hD hS ls hl => ih F_across F_bareLight p1 h H locs hP hD hS ls hl) (show bk_X1_throwRays_2  (lp_X1_throwRays_2  F_spotCount F_pointCount F_wallCount F_table F_spots F_points F_walls n) F_spotCount F_pointCount F_wallCount F_table F_spots F_points F_walls F_across F_bareLight p1 = some _ from h) hP hD hS hl
noncomputable def f_X1_throwRays (F_spotCount : Int32) (F_pointCount : Int32) (F_wallCount : Int32) (F_table : Nat → Int32) (F_spots : Nat → Int32) (F_points : Nat → Int32) (F_walls : Nat → Int32) (F_across : Nat → Int32) (F_bareLight : Nat → Int32)  : Option ((Nat → Int32) × (Nat → Int32)) := lp_X1_throwRays_2  F_spotCount F_pointCount F_wallCount F_table F_spots F_points F_walls 1000 F_across F_bareLight (0 : Int32)
set_option maxHeartbeats 4000000 in
set_option maxRecDepth 100000 in
theorem c_X1_throwRays (l : Launch) (D : va_G) (cI cC cZ : ClassId) (a_F a_F_table a_F_spots a_F_points a_F_walls a_F_across a_F_bareLight : Nat) (sz : Nat) (F_glow : Int32) (F_spotCount : Int32) (F_pointCount : Int32) (F_wallCount : Int32) (F_table : Nat → Int32) (F_spots : Nat → Int32) (F_points : Nat → Int32) (F_walls : Nat → Int32) (F_across : Nat → Int32) (F_bareLight : Nat → Int32) (u_F_across : Nat → Int32) (u_F_bareLight : Nat → Int32) (hf : f_X1_throwRays F_spotCount F_pointCount F_wallCount F_table F_spots F_points F_walls F_across F_bareLight = some (u_F_across, u_F_bareLight)) : kMet l yX1_throwRays cX1_throwRays 5 none rm_X1_throwRays D (kTY cI cC cZ) [.ref a_F] (WD2 cI cC cZ a_F a_F_table a_F_spots a_F_points a_F_walls a_F_across a_F_bareLight F_glow F_spotCount F_pointCount F_wallCount F_table F_spots F_points F_walls F_across F_bareLight) sz (kQV D (kTY cI cC cZ) (va_A (WD2 cI cC cZ a_F a_F_table a_F_spots a_F_points a_F_walls a_F_across a_F_bareLight F_glow F_spotCount F_pointCount F_wallCount F_table F_spots F_points F_walls F_across F_bareLight) sz) (WD2 cI cC cZ a_F a_F_table a_F_spots a_F_points a_F_walls a_F_across a_F_bareLight F_glow F_spotCount F_pointCount F_wallCount F_table F_spots F_points F_walls u_F_across u_F_bareLight)) := by
  refine kEnter (lv := [(0, .ref a_F)]) (own := RX1) (by decide) rfl (Nat.le_of_ble_eq_true rfl) rfl ?_
  intro p e s m below meth c hsz C0 hP hD hS ls hl
  generalize (va_A (WD2 cI cC cZ a_F a_F_table a_F_spots a_F_points a_F_walls a_F_across a_F_bareLight F_glow F_spotCount F_pointCount F_wallCount F_table F_spots F_points F_walls F_across F_bareLight) sz) = A at C0 hD hS ⊢
  clear hsz hS
  obtain ⟨H, hHs⟩ : ∃ H : Heap, H = s.heap := ⟨_, rfl⟩
  have hS : va_S A s.heap H [] := by rw [hHs]; exact va_S.rf
  rw [← hHs] at hP ⊢
  obtain ⟨hx, hb, hr, hml, hown, hts, hK, hN, hA, hlocks, hF⟩ := id C0
  have h := hf
  unfold f_X1_throwRays at h
  refine lv_iconst (v := (0 : Int32)) hx hb dX1_throwRays_0 (by decide) ?_
  refine lv_istore_n (lv' := [(1, .int (0 : Int32)), (0, .ref a_F)]) hx hb dX1_throwRays_1 rfl hl (by decide) rfl (fun ls hl => ?_)
  exact wl_X1_throwRays_2 C0  _ _ _ _ h _ _ hP hD hS _ (lv_sub hl [1, 0] rfl)
abbrev WD5 (cI cC cZ : ClassId) (a_F a_F_table a_F_spots a_F_points a_F_walls a_F_across a_F_bareLight a_T a_T_letters : Nat) (F_glow : Int32) (F_spotCount : Int32) (F_pointCount : Int32) (F_wallCount : Int32) (F_table : Nat → Int32) (F_spots : Nat → Int32) (F_points : Nat → Int32) (F_walls : Nat → Int32) (F_across : Nat → Int32) (F_bareLight : Nat → Int32) (T_length : Int32) (T_letters : Nat → Int32) : va_W := [(a_F, .inr (1, [.ref a_F_table, .ref a_F_spots, .ref a_F_points, .ref a_F_walls, .ref a_F_across, .ref a_F_bareLight, .int F_glow, .int F_spotCount, .int F_pointCount, .int F_wallCount])), (a_F_table, .inl (cI, 10, .inl F_table)), (a_F_spots, .inl (cI, 32, .inl F_spots)), (a_F_points, .inl (cI, 24, .inl F_points)), (a_F_walls, .inl (cI, 20, .inl F_walls)), (a_F_across, .inl (cI, 48, .inl F_across)), (a_F_bareLight, .inl (cI, 48, .inl F_bareLight)), (a_T, .inr (5, [.ref a_T_letters, .int T_length])), (a_T_letters, .inl (cC, 99, .inl T_letters))]
abbrev rm_X1_read : Room := { frames := 4, cells := 0, slots := 0, locals := 100 }
noncomputable def bk_X1_read_27  (F_glow : Int32) (F_spotCount : Int32) (F_pointCount : Int32) (F_wallCount : Int32) (F_table : Nat → Int32) (F_spots : Nat → Int32) (F_points : Nat → Int32) (F_walls : Nat → Int32) (F_across : Nat → Int32) (F_bareLight : Nat → Int32) (T_length : Int32) (T_letters : Nat → Int32) : Option (Int32 × Int32 × Int32 × Int32 × (Nat → Int32) × (Nat → Int32) × (Nat → Int32) × (Nat → Int32) × (Nat → Int32) × (Nat → Int32)) := (f_X5_figureAt T_length T_letters (11 : Int32)).bind (fun r2 => (f_X1_readParts 32 T_length T_letters F_spots (115 : Int32)).bind (fun z => un2 z (fun r4 u5 => (f_X1_readParts 24 T_length T_letters F_points (102 : Int32)).bind (fun z => un2 z (fun r7 u8 => (f_X1_readParts 20 T_length T_letters F_walls (119 : Int32)).bind (fun z => un2 z (fun r10 u11 => (f_X1_throwRays r4 r7 r10 F_table u5 u8 u11 F_across F_bareLight).bind (fun z => un2 z (fun u13 u14 => some (r2, r4, r7, r10, F_table, u5, u8, u11, u13, u14))))))))))
set_option maxHeartbeats 4000000 in
set_option maxRecDepth 100000 in
theorem wk_X1_read_27 {p : Program} {l : Launch} {e : Env} {s : State} {m : MethodId} {args : Array Value} {below : List Frame} {meth : Method} {c : Code} {D : va_G} {cI cC cZ : ClassId} {A : Nat → Prop} {a_F a_F_table a_F_spots a_F_points a_F_walls a_F_across a_F_bareLight a_T a_T_letters : Nat} {F_glow : Int32} {F_spotCount : Int32} {F_pointCount : Int32} {F_wallCount : Int32} {F_table : Nat → Int32} {F_spots : Nat → Int32} {F_points : Nat → Int32} {F_walls : Nat → Int32} {F_across : Nat → Int32} {F_bareLight : Nat → Int32} {T_length : Int32} {T_letters : Nat → Int32}  {u_F_glow : Int32} {u_F_spotCount : Int32} {u_F_pointCount : Int32} {u_F_wallCount : Int32} {u_F_table : Nat → Int32} {u_F_spots : Nat → Int32} {u_F_points : Nat → Int32} {u_F_walls : Nat → Int32} {u_F_across : Nat → Int32} {u_F_bareLight : Nat → Int32} (C0 : kC p s m args meth c D (kTY cI cC cZ) cX1_read none 3 RX1 A)  (h : bk_X1_read_27  F_glow F_spotCount F_pointCount F_wallCount F_table F_spots F_points F_walls F_across F_bareLight T_length T_letters = some (u_F_glow, u_F_spotCount, u_F_pointCount, u_F_wallCount, u_F_table, u_F_spots, u_F_points, u_F_walls, u_F_across, u_F_bareLight)) {H : Heap} {locs : List Loc} (hP : va_P D vwCl (WD5 cI cC cZ a_F a_F_table a_F_spots a_F_points a_F_walls a_F_across a_F_bareLight a_T a_T_letters F_glow F_spotCount F_pointCount F_wallCount F_table F_spots F_points F_walls F_across F_bareLight T_length T_letters) H) (hD : va_D A (WD5 cI cC cZ a_F a_F_table a_F_spots a_F_points a_F_walls a_F_across a_F_bareLight a_T a_T_letters F_glow F_spotCount F_pointCount F_wallCount F_table F_spots F_points F_walls F_across F_bareLight T_length T_letters)) (hS : va_S A s.heap H locs) {ls : Array Slot} (hl : lv_has ls 3 [(0, .ref a_F), (1, .ref a_T)]) : W p l e rm_X1_read s m args below meth c H locs 0 0 (MQ below (kQV D (kTY cI cC cZ) A (WD5 cI cC cZ a_F a_F_table a_F_spots a_F_points a_F_walls a_F_across a_F_bareLight a_T a_T_letters u_F_glow u_F_spotCount u_F_pointCount u_F_wallCount u_F_table u_F_spots u_F_points u_F_walls u_F_across u_F_bareLight T_length T_letters)) args s 0 0 A) (F0 m 27 ls []) := by
  obtain ⟨hx, hb, hr, hml, hown, hts, hK, hN, hA, hlocks, hF⟩ := id C0
  unfold bk_X1_read_27 at h
  refine lv_aload_n hx hb dX1_read_27 rfl (lv_at hl 0 rfl) ?_
  refine lv_aload_n hx hb dX1_read_28 rfl (lv_at hl 1 rfl) ?_
  refine lv_bipush (v := (11 : Int32)) hx hb dX1_read_29 (by decide) ?_
  obtain ⟨r2, hc1, h⟩ := oc_bind h
  refine kro_i (wc := (WD1 cI cC cZ a_T a_T_letters T_length T_letters)) C0 hP hD hS [7, 8] rfl (kVN (n := 1) (As := [.int (11 : Int32)]) (rest := [.ref a_F]) (wc := (WD1 cI cC cZ a_T a_T_letters T_length T_letters)) (C := RX5) C0 hP hD hS [7, 8] rfl (by decide) (c_X5_figureAt l D cI cC cZ a_T a_T_letters H.size T_length T_letters (11 : Int32) r2 hc1) kw_145 (ks_m9 hN) kw_143 kw_144 kw_15 (by decide +kernel) (by decide) rfl rfl rfl hl.1 rfl (Nat.le_of_ble_eq_true rfl) ⟨Nat.zero_le _, Nat.zero_le _⟩ dX1_read_31) (fun H locs hP hS => ?_)
  refine va_put (D := D) (ci := 1) (v := .int r2) (ty := .int) (C := RX1) (T := TX1) (N := 10) hx hb hts inlX1 tyX1 tyX1_ok nmX1 hown hK hP hD hS 0 rfl rfl 6 (by decide) (hts _ kw_206) (fun _ h9 => h9) rfl (by decide +kernel) rfl rfl (Nat.le_of_ble_eq_true rfl) dX1_read_34 (fun H locs hP hD hS => ?_)
  have hP : va_P D vwCl (WD5 cI cC cZ a_F a_F_table a_F_spots a_F_points a_F_walls a_F_across a_F_bareLight a_T a_T_letters r2 F_spotCount F_pointCount F_wallCount F_table F_spots F_points F_walls F_across F_bareLight T_length T_letters) H := hP
  have hD : va_D A (WD5 cI cC cZ a_F a_F_table a_F_spots a_F_points a_F_walls a_F_across a_F_bareLight a_T a_T_letters r2 F_spotCount F_pointCount F_wallCount F_table F_spots F_points F_walls F_across F_bareLight T_length T_letters) := hD
  refine lv_aload_n hx hb dX1_read_37 rfl (lv_at hl 0 rfl) ?_
  refine lv_aload_n hx hb dX1_read_38 rfl (lv_at hl 1 rfl) ?_
  refine lv_bipush (v := (115 : Int32)) hx hb dX1_read_39 (by decide) ?_
  refine lv_aload_n hx hb dX1_read_41 rfl (lv_at hl 0 rfl) ?_
  refine va_get (D := D) (ci := 1) (v := .ref a_F_spots) (C := RX1) (T := TX1) (N := 10) hx hb hts inlX1 hown hK hP 0 rfl rfl 1 (by decide) (hts _ kw_51) (fun _ h9 => h9) rfl dX1_read_42 ?_
  obtain ⟨r4, u5, hc3, h⟩ := oc_b2 h
  refine kgo_i (wc := (WD4 cI cC cZ a_T a_T_letters a_F_spots 32 T_length T_letters F_spots)) (wc' := (WD4 cI cC cZ a_T a_T_letters a_F_spots 32 T_length T_letters u5)) (ws' := (WD5 cI cC cZ a_F a_F_table a_F_spots a_F_points a_F_walls a_F_across a_F_bareLight a_T a_T_letters r2 F_spotCount F_pointCount F_wallCount F_table u5 F_points F_walls F_across F_bareLight T_length T_letters)) C0 hP hD hS [7, 8, 2] [0, 1, 3, 4, 5, 6] [0, 1, 8, 2, 3, 4, 5, 6, 7] [(a_F, .inr (1, [.ref a_F_table, .ref a_F_spots, .ref a_F_points, .ref a_F_walls, .ref a_F_across, .ref a_F_bareLight, .int r2, .int F_spotCount, .int F_pointCount, .int F_wallCount])), (a_F_table, .inl (cI, 10, .inl F_table)), (a_F_points, .inl (cI, 24, .inl F_points)), (a_F_walls, .inl (cI, 20, .inl F_walls)), (a_F_across, .inl (cI, 48, .inl F_across)), (a_F_bareLight, .inl (cI, 48, .inl F_bareLight))] rfl rfl (by decide) (by decide) rfl (by decide) (kS (n := 3) (As := [.ref a_T, .int (115 : Int32), .ref a_F_spots]) (rest := [.ref a_F]) (wc := (WD4 cI cC cZ a_T a_T_letters a_F_spots 32 T_length T_letters F_spots)) C0 hP hD hS [7, 8, 2] rfl (by decide) (c_X1_readParts l D cI cC cZ a_T a_T_letters a_F_spots 32 H.size T_length T_letters F_spots (115 : Int32) r4 u5 hc3) kw_212 kw_210 kw_211 kw_19 (by decide +kernel) (by decide) rfl hl.1 rfl (Nat.le_of_ble_eq_true rfl) ⟨Nat.zero_le _, Nat.zero_le _⟩ dX1_read_45) (fun H locs hP hD hS => ?_)
  refine va_put (D := D) (ci := 1) (v := .int r4) (ty := .int) (C := RX1) (T := TX1) (N := 10) hx hb hts inlX1 tyX1 tyX1_ok nmX1 hown hK hP hD hS 0 rfl rfl 7 (by decide) (hts _ kw_207) (fun _ h9 => h9) rfl (by decide +kernel) rfl rfl (Nat.le_of_ble_eq_true rfl) dX1_read_48 (fun H locs hP hD hS => ?_)
  have hP : va_P D vwCl (WD5 cI cC cZ a_F a_F_table a_F_spots a_F_points a_F_walls a_F_across a_F_bareLight a_T a_T_letters r2 r4 F_pointCount F_wallCount F_table u5 F_points F_walls F_across F_bareLight T_length T_letters) H := hP
  have hD : va_D A (WD5 cI cC cZ a_F a_F_table a_F_spots a_F_points a_F_walls a_F_across a_F_bareLight a_T a_T_letters r2 r4 F_pointCount F_wallCount F_table u5 F_points F_walls F_across F_bareLight T_length T_letters) := hD
  refine lv_aload_n hx hb dX1_read_51 rfl (lv_at hl 0 rfl) ?_
  refine lv_aload_n hx hb dX1_read_52 rfl (lv_at hl 1 rfl) ?_
  refine lv_bipush (v := (102 : Int32)) hx hb dX1_read_53 (by decide) ?_
  refine lv_aload_n hx hb dX1_read_55 rfl (lv_at hl 0 rfl) ?_
  refine va_get (D := D) (ci := 1) (v := .ref a_F_points) (C := RX1) (T := TX1) (N := 10) hx hb hts inlX1 hown hK hP 0 rfl rfl 2 (by decide) (hts _ kw_52) (fun _ h9 => h9) rfl dX1_read_56 ?_
  obtain ⟨r7, u8, hc6, h⟩ := oc_b2 h
  refine kgo_i (wc := (WD4 cI cC cZ a_T a_T_letters a_F_points 24 T_length T_letters F_points)) (wc' := (WD4 cI cC cZ a_T a_T_letters a_F_points 24 T_length T_letters u8)) (ws' := (WD5 cI cC cZ a_F a_F_table a_F_spots a_F_points a_F_walls a_F_across a_F_bareLight a_T a_T_letters r2 r4 F_pointCount F_wallCount F_table u5 u8 F_walls F_across F_bareLight T_length T_letters)) C0 hP hD hS [7, 8, 3] [0, 1, 2, 4, 5, 6] [0, 1, 2, 8, 3, 4, 5, 6, 7] [(a_F, .inr (1, [.ref a_F_table, .ref a_F_spots, .ref a_F_points, .ref a_F_walls, .ref a_F_across, .ref a_F_bareLight, .int r2, .int r4, .int F_pointCount, .int F_wallCount])), (a_F_table, .inl (cI, 10, .inl F_table)), (a_F_spots, .inl (cI, 32, .inl u5)), (a_F_walls, .inl (cI, 20, .inl F_walls)), (a_F_across, .inl (cI, 48, .inl F_across)), (a_F_bareLight, .inl (cI, 48, .inl F_bareLight))] rfl rfl (by decide) (by decide) rfl (by decide) (kS (n := 3) (As := [.ref a_T, .int (102 : Int32), .ref a_F_points]) (rest := [.ref a_F]) (wc := (WD4 cI cC cZ a_T a_T_letters a_F_points 24 T_length T_letters F_points)) C0 hP hD hS [7, 8, 3] rfl (by decide) (c_X1_readParts l D cI cC cZ a_T a_T_letters a_F_points 24 H.size T_length T_letters F_points (102 : Int32) r7 u8 hc6) kw_212 kw_210 kw_211 kw_19 (by decide +kernel) (by decide) rfl hl.1 rfl (Nat.le_of_ble_eq_true rfl) ⟨Nat.zero_le _, Nat.zero_le _⟩ dX1_read_59) (fun H locs hP hD hS => ?_)
  refine va_put (D := D) (ci := 1) (v := .int r7) (ty := .int) (C := RX1) (T := TX1) (N := 10) hx hb hts inlX1 tyX1 tyX1_ok nmX1 hown hK hP hD hS 0 rfl rfl 8 (by decide) (hts _ kw_208) (fun _ h9 => h9) rfl (by decide +kernel) rfl rfl (Nat.le_of_ble_eq_true rfl) dX1_read_62 (fun H locs hP hD hS => ?_)
  have hP : va_P D vwCl (WD5 cI cC cZ a_F a_F_table a_F_spots a_F_points a_F_walls a_F_across a_F_bareLight a_T a_T_letters r2 r4 r7 F_wallCount F_table u5 u8 F_walls F_across F_bareLight T_length T_letters) H := hP
  have hD : va_D A (WD5 cI cC cZ a_F a_F_table a_F_spots a_F_points a_F_walls a_F_across a_F_bareLight a_T a_T_letters r2 r4 r7 F_wallCount F_table u5 u8 F_walls F_across F_bareLight T_length T_letters) := hD
  refine lv_aload_n hx hb dX1_read_65 rfl (lv_at hl 0 rfl) ?_
  refine lv_aload_n hx hb dX1_read_66 rfl (lv_at hl 1 rfl) ?_
  refine lv_bipush (v := (119 : Int32)) hx hb dX1_read_67 (by decide) ?_
  refine lv_aload_n hx hb dX1_read_69 rfl (lv_at hl 0 rfl) ?_
  refine va_get (D := D) (ci := 1) (v := .ref a_F_walls) (C := RX1) (T := TX1) (N := 10) hx hb hts inlX1 hown hK hP 0 rfl rfl 3 (by decide) (hts _ kw_53) (fun _ h9 => h9) rfl dX1_read_70 ?_
  obtain ⟨r10, u11, hc9, h⟩ := oc_b2 h
  refine kgo_i (wc := (WD4 cI cC cZ a_T a_T_letters a_F_walls 20 T_length T_letters F_walls)) (wc' := (WD4 cI cC cZ a_T a_T_letters a_F_walls 20 T_length T_letters u11)) (ws' := (WD5 cI cC cZ a_F a_F_table a_F_spots a_F_points a_F_walls a_F_across a_F_bareLight a_T a_T_letters r2 r4 r7 F_wallCount F_table u5 u8 u11 F_across F_bareLight T_length T_letters)) C0 hP hD hS [7, 8, 4] [0, 1, 2, 3, 5, 6] [0, 1, 2, 3, 8, 4, 5, 6, 7] [(a_F, .inr (1, [.ref a_F_table, .ref a_F_spots, .ref a_F_points, .ref a_F_walls, .ref a_F_across, .ref a_F_bareLight, .int r2, .int r4, .int r7, .int F_wallCount])), (a_F_table, .inl (cI, 10, .inl F_table)), (a_F_spots, .inl (cI, 32, .inl u5)), (a_F_points, .inl (cI, 24, .inl u8)), (a_F_across, .inl (cI, 48, .inl F_across)), (a_F_bareLight, .inl (cI, 48, .inl F_bareLight))] rfl rfl (by decide) (by decide) rfl (by decide) (kS (n := 3) (As := [.ref a_T, .int (119 : Int32), .ref a_F_walls]) (rest := [.ref a_F]) (wc := (WD4 cI cC cZ a_T a_T_letters a_F_walls 20 T_length T_letters F_walls)) C0 hP hD hS [7, 8, 4] rfl (by decide) (c_X1_readParts l D cI cC cZ a_T a_T_letters a_F_walls 20 H.size T_length T_letters F_walls (119 : Int32) r10 u11 hc9) kw_212 kw_210 kw_211 kw_19 (by decide +kernel) (by decide) rfl hl.1 rfl (Nat.le_of_ble_eq_true rfl) ⟨Nat.zero_le _, Nat.zero_le _⟩ dX1_read_73) (fun H locs hP hD hS => ?_)
  refine va_put (D := D) (ci := 1) (v := .int r10) (ty := .int) (C := RX1) (T := TX1) (N := 10) hx hb hts inlX1 tyX1 tyX1_ok nmX1 hown hK hP hD hS 0 rfl rfl 9 (by decide) (hts _ kw_209) (fun _ h9 => h9) rfl (by decide +kernel) rfl rfl (Nat.le_of_ble_eq_true rfl) dX1_read_76 (fun H locs hP hD hS => ?_)
  have hP : va_P D vwCl (WD5 cI cC cZ a_F a_F_table a_F_spots a_F_points a_F_walls a_F_across a_F_bareLight a_T a_T_letters r2 r4 r7 r10 F_table u5 u8 u11 F_across F_bareLight T_length T_letters) H := hP
  have hD : va_D A (WD5 cI cC cZ a_F a_F_table a_F_spots a_F_points a_F_walls a_F_across a_F_bareLight a_T a_T_letters r2 r4 r7 r10 F_table u5 u8 u11 F_across F_bareLight T_length T_letters) := hD
  refine lv_aload_n hx hb dX1_read_79 rfl (lv_at hl 0 rfl) ?_
  obtain ⟨u13, u14, hc12, h⟩ := oc_b2 h
  refine kgo_v (wc := (WD2 cI cC cZ a_F a_F_table a_F_spots a_F_points a_F_walls a_F_across a_F_bareLight r2 r4 r7 r10 F_table u5 u8 u11 F_across F_bareLight)) (wc' := (WD2 cI cC cZ a_F a_F_table a_F_spots a_F_points a_F_walls a_F_across a_F_bareLight r2 r4 r7 r10 F_table u5 u8 u11 u13 u14)) (ws' := (WD5 cI cC cZ a_F a_F_table a_F_spots a_F_points a_F_walls a_F_across a_F_bareLight a_T a_T_letters r2 r4 r7 r10 F_table u5 u8 u11 u13 u14 T_length T_letters)) C0 hP hD hS [0, 1, 2, 3, 4, 5, 6] [7, 8] [2, 3, 4, 5, 6, 7, 8, 0, 1] [(a_T, .inr (5, [.ref a_T_letters, .int T_length])), (a_T_letters, .inl (cC, 99, .inl T_letters))] rfl rfl (by decide) (by decide) rfl (by decide) (kV (n := 0) (As := []) (rest := []) (wc := (WD2 cI cC cZ a_F a_F_table a_F_spots a_F_points a_F_walls a_F_across a_F_bareLight r2 r4 r7 r10 F_table u5 u8 u11 F_across F_bareLight)) (C := RX1) C0 hP hD hS [0, 1, 2, 3, 4, 5, 6] rfl (by decide) (c_X1_throwRays l D cI cC cZ a_F a_F_table a_F_spots a_F_points a_F_walls a_F_across a_F_bareLight H.size r2 r4 r7 r10 F_table u5 u8 u11 F_across F_bareLight  u13 u14 hc12) kw_216 kw_213 kw_214 kw_215 kw_19 (by decide +kernel) (by decide) rfl rfl rfl hl.1 rfl (Nat.le_of_ble_eq_true rfl) ⟨Nat.zero_le _, Nat.zero_le _⟩ dX1_read_80) (fun H locs hP hD hS => ?_)
  cases h
  exact kret_v C0 hP hD hS dX1_read_83
noncomputable def bk_X1_read_2 (k2 : (Nat → Int32) → Int32 → Option (Int32 × Int32 × Int32 × Int32 × (Nat → Int32) × (Nat → Int32) × (Nat → Int32) × (Nat → Int32) × (Nat → Int32) × (Nat → Int32))) (F_glow : Int32) (F_spotCount : Int32) (F_pointCount : Int32) (F_wallCount : Int32) (F_spots : Nat → Int32) (F_points : Nat → Int32) (F_walls : Nat → Int32) (F_across : Nat → Int32) (F_bareLight : Nat → Int32) (T_length : Int32) (T_letters : Nat → Int32) (F_table : Nat → Int32) (p2 : Int32) : Option (Int32 × Int32 × Int32 × Int32 × (Nat → Int32) × (Nat → Int32) × (Nat → Int32) × (Nat → Int32) × (Nat → Int32) × (Nat → Int32)) := if (10 : Int32) ≤ p2 then (bk_X1_read_27  F_glow F_spotCount F_pointCount F_wallCount F_table F_spots F_points F_walls F_across F_bareLight T_length T_letters) else ((f_X5_figureAt T_length T_letters ((1 : Int32) + p2)).bind (fun r3 => if (p2 < 0 ∨ 10 ≤ Int32.toNatClampNeg p2) then none else (nm_ (p2 + (1 : Int32)) (fun t5 => k2 (upd F_table (Int32.toNatClampNeg p2) r3) t5))))
set_option maxHeartbeats 4000000 in
set_option maxRecDepth 100000 in
theorem wk_X1_read_2 {p : Program} {l : Launch} {e : Env} {s : State} {m : MethodId} {args : Array Value} {below : List Frame} {meth : Method} {c : Code} {D : va_G} {cI cC cZ : ClassId} {A : Nat → Prop} {a_F a_F_table a_F_spots a_F_points a_F_walls a_F_across a_F_bareLight a_T a_T_letters : Nat} {F_glow : Int32} {F_spotCount : Int32} {F_pointCount : Int32} {F_wallCount : Int32} {F_table : Nat → Int32} {F_spots : Nat → Int32} {F_points : Nat → Int32} {F_walls : Nat → Int32} {F_across : Nat → Int32} {F_bareLight : Nat → Int32} {T_length : Int32} {T_letters : Nat → Int32} {p2 : Int32} {k2 : (Nat → Int32) → Int32 → Option (Int32 × Int32 × Int32 × Int32 × (Nat → Int32) × (Nat → Int32) × (Nat → Int32) × (Nat → Int32) × (Nat → Int32) × (Nat → Int32))} {u_F_glow : Int32} {u_F_spotCount : Int32} {u_F_pointCount : Int32} {u_F_wallCount : Int32} {u_F_table : Nat → Int32} {u_F_spots : Nat → Int32} {u_F_points : Nat → Int32} {u_F_walls : Nat → Int32} {u_F_across : Nat → Int32} {u_F_bareLight : Nat → Int32} (C0 : kC p s m args meth c D (kTY cI cC cZ) cX1_read none 3 RX1 A) (hk2 : ∀ (F_table_k : Nat → Int32) (p2_k : Int32), k2 F_table_k p2_k = some (u_F_glow, u_F_spotCount, u_F_pointCount, u_F_wallCount, u_F_table, u_F_spots, u_F_points, u_F_walls, u_F_across, u_F_bareLight) → ∀ (H : Heap) (locs : List Loc), va_P D vwCl (WD5 cI cC cZ a_F a_F_table a_F_spots a_F_points a_F_walls a_F_across a_F_bareLight a_T a_T_letters F_glow F_spotCount F_pointCount F_wallCount F_table_k F_spots F_points F_walls F_across F_bareLight T_length T_letters) H → va_D A (WD5 cI cC cZ a_F a_F_table a_F_spots a_F_points a_F_walls a_F_across a_F_bareLight a_T a_T_letters F_glow F_spotCount F_pointCount F_wallCount F_table_k F_spots F_points F_walls F_across F_bareLight T_length T_letters) → va_S A s.heap H locs → ∀ ls : Array Slot, lv_has ls 3 [(0, .ref a_F), (1, .ref a_T), (2, .int p2_k)] → W p l e rm_X1_read s m args below meth c H locs 0 0 (MQ below (kQV D (kTY cI cC cZ) A (WD5 cI cC cZ a_F a_F_table a_F_spots a_F_points a_F_walls a_F_across a_F_bareLight a_T a_T_letters u_F_glow u_F_spotCount u_F_pointCount u_F_wallCount u_F_table u_F_spots u_F_points u_F_walls u_F_across u_F_bareLight T_length T_letters)) args s 0 0 A) (F0 m 2 ls [])) (h : bk_X1_read_2 k2 F_glow F_spotCount F_pointCount F_wallCount F_spots F_points F_walls F_across F_bareLight T_length T_letters F_table p2 = some (u_F_glow, u_F_spotCount, u_F_pointCount, u_F_wallCount, u_F_table, u_F_spots, u_F_points, u_F_walls, u_F_across, u_F_bareLight)) {H : Heap} {locs : List Loc} (hP : va_P D vwCl (WD5 cI cC cZ a_F a_F_table a_F_spots a_F_points a_F_walls a_F_across a_F_bareLight a_T a_T_letters F_glow F_spotCount F_pointCount F_wallCount F_table F_spots F_points F_walls F_across F_bareLight T_length T_letters) H) (hD : va_D A (WD5 cI cC cZ a_F a_F_table a_F_spots a_F_points a_F_walls a_F_across a_F_bareLight a_T a_T_letters F_glow F_spotCount F_pointCount F_wallCount F_table F_spots F_points F_walls F_across F_bareLight T_length T_letters)) (hS : va_S A s.heap H locs) {ls : Array Slot} (hl : lv_has ls 3 [(0, .ref a_F), (1, .ref a_T), (2, .int p2)]) : W p l e rm_X1_read s m args below meth c H locs 0 0 (MQ below (kQV D (kTY cI cC cZ) A (WD5 cI cC cZ a_F a_F_table a_F_spots a_F_points a_F_walls a_F_across a_F_bareLight a_T a_T_letters u_F_glow u_F_spotCount u_F_pointCount u_F_wallCount u_F_table u_F_spots u_F_points u_F_walls u_F_across u_F_bareLight T_length T_letters)) args s 0 0 A) (F0 m 2 ls []) := by
  obtain ⟨hx, hb, hr, hml, hown, hts, hK, hN, hA, hlocks, hF⟩ := id C0
  unfold bk_X1_read_2 at h
  refine lv_iload_n hx hb dX1_read_2 rfl (lv_at hl 2 rfl) ?_
  refine lv_bipush (v := (10 : Int32)) hx hb dX1_read_3 (by decide) ?_
  refine lv_icmp_ge (tgt := 27) hx hb dX1_read_5 (by decide) (fun c1 => ?_) (fun c1 => ?_)
  · have h := oc_t c1 h
    exact wk_X1_read_27 C0  h hP hD hS (lv_sub hl [0, 1] rfl)
  · have h := oc_f c1 h
    refine lv_aload_n hx hb dX1_read_8 rfl (lv_at hl 0 rfl) ?_
    refine va_get (D := D) (ci := 1) (v := .ref a_F_table) (C := RX1) (T := TX1) (N := 10) hx hb hts inlX1 hown hK hP 0 rfl rfl 0 (by decide) (hts _ kw_50) (fun _ h9 => h9) rfl dX1_read_9 ?_
    refine lv_iload_n hx hb dX1_read_12 rfl (lv_at hl 2 rfl) ?_
    refine lv_aload_n hx hb dX1_read_13 rfl (lv_at hl 1 rfl) ?_
    refine lv_iconst (v := (1 : Int32)) hx hb dX1_read_14 (by decide) ?_
    refine lv_iload_n hx hb dX1_read_15 rfl (lv_at hl 2 rfl) ?_
    refine lv_iadd hx hb dX1_read_16 ?_
    obtain ⟨r3, hc2, h⟩ := oc_bind h
    refine kro_i (wc := (WD1 cI cC cZ a_T a_T_letters T_length T_letters)) C0 hP hD hS [7, 8] rfl (kVN (n := 1) (As := [.int ((1 : Int32) + p2)]) (rest := [.int p2, .ref a_F_table]) (wc := (WD1 cI cC cZ a_T a_T_letters T_length T_letters)) (C := RX5) C0 hP hD hS [7, 8] rfl (by decide) (c_X5_figureAt l D cI cC cZ a_T a_T_letters H.size T_length T_letters ((1 : Int32) + p2) r3 hc2) kw_145 (ks_m9 hN) kw_143 kw_144 kw_15 (by decide +kernel) (by decide) rfl rfl rfl hl.1 rfl (Nat.le_of_ble_eq_true rfl) ⟨Nat.zero_le _, Nat.zero_le _⟩ dX1_read_17) (fun H locs hP hS => ?_)
    obtain ⟨hb4, h⟩ := oc_else h
    refine va_iast hx hb hK hP hD hS 1 0 rfl rfl hb4 dX1_read_20 (fun H locs hP hD hS => ?_)
    have hP : va_P D vwCl (WD5 cI cC cZ a_F a_F_table a_F_spots a_F_points a_F_walls a_F_across a_F_bareLight a_T a_T_letters F_glow F_spotCount F_pointCount F_wallCount (upd F_table (Int32.toNatClampNeg p2) r3) F_spots F_points F_walls F_across F_bareLight T_length T_letters) H := hP
    have hD : va_D A (WD5 cI cC cZ a_F a_F_table a_F_spots a_F_points a_F_walls a_F_across a_F_bareLight a_T a_T_letters F_glow F_spotCount F_pointCount F_wallCount (upd F_table (Int32.toNatClampNeg p2) r3) F_spots F_points F_walls F_across F_bareLight T_length T_letters) := hD
    obtain ⟨t5, e_t5⟩ : ∃ y : Int32, y = p2 + (1 : Int32) := ⟨_, rfl⟩
    have h := oc_nm e_t5 h
    refine lv_iinc (v := t5) (lv' := [(2, .int t5), (0, .ref a_F), (1, .ref a_T)]) hx hb dX1_read_21 hl (k := 2) rfl (by rw [e_t5]; rfl) (by decide) rfl (fun ls hl => ?_)
    refine lv_goto (tgt := 2) hx hb dX1_read_24 (by decide) ?_
    exact hk2 _ _ h _ _ hP hD hS _ (lv_sub hl [1, 2, 0] rfl)
noncomputable def lp_X1_read_2  (F_glow : Int32) (F_spotCount : Int32) (F_pointCount : Int32) (F_wallCount : Int32) (F_spots : Nat → Int32) (F_points : Nat → Int32) (F_walls : Nat → Int32) (F_across : Nat → Int32) (F_bareLight : Nat → Int32) (T_length : Int32) (T_letters : Nat → Int32) (n : Nat) : (Nat → Int32) → Int32 → Option (Int32 × Int32 × Int32 × Int32 × (Nat → Int32) × (Nat → Int32) × (Nat → Int32) × (Nat → Int32) × (Nat → Int32) × (Nat → Int32)) := Nat.rec (motive := fun _ => (Nat → Int32) → Int32 → Option (Int32 × Int32 × Int32 × Int32 × (Nat → Int32) × (Nat → Int32) × (Nat → Int32) × (Nat → Int32) × (Nat → Int32) × (Nat → Int32))) (fun _ _ => none) (fun _ ih => bk_X1_read_2  ih F_glow F_spotCount F_pointCount F_wallCount F_spots F_points F_walls F_across F_bareLight T_length T_letters) n
set_option maxHeartbeats 4000000 in
set_option maxRecDepth 100000 in
theorem wl_X1_read_2 {p : Program} {l : Launch} {e : Env} {s : State} {m : MethodId} {args : Array Value} {below : List Frame} {meth : Method} {c : Code} {D : va_G} {cI cC cZ : ClassId} {A : Nat → Prop} {a_F a_F_table a_F_spots a_F_points a_F_walls a_F_across a_F_bareLight a_T a_T_letters : Nat} {F_glow : Int32} {F_spotCount : Int32} {F_pointCount : Int32} {F_wallCount : Int32} {F_spots : Nat → Int32} {F_points : Nat → Int32} {F_walls : Nat → Int32} {F_across : Nat → Int32} {F_bareLight : Nat → Int32} {T_length : Int32} {T_letters : Nat → Int32}  {u_F_glow : Int32} {u_F_spotCount : Int32} {u_F_pointCount : Int32} {u_F_wallCount : Int32} {u_F_table : Nat → Int32} {u_F_spots : Nat → Int32} {u_F_points : Nat → Int32} {u_F_walls : Nat → Int32} {u_F_across : Nat → Int32} {u_F_bareLight : Nat → Int32} (C0 : kC p s m args meth c D (kTY cI cC cZ) cX1_read none 3 RX1 A)  : ∀ (n : Nat) (F_table : Nat → Int32) (p2 : Int32), lp_X1_read_2  F_glow F_spotCount F_pointCount F_wallCount F_spots F_points F_walls F_across F_bareLight T_length T_letters n F_table p2 = some (u_F_glow, u_F_spotCount, u_F_pointCount, u_F_wallCount, u_F_table, u_F_spots, u_F_points, u_F_walls, u_F_across, u_F_bareLight) → ∀ (H : Heap) (locs : List Loc), va_P D vwCl (WD5 cI cC cZ a_F a_F_table a_F_spots a_F_points a_F_walls a_F_across a_F_bareLight a_T a_T_letters F_glow F_spotCount F_pointCount F_wallCount F_table F_spots F_points F_walls F_across F_bareLight T_length T_letters) H → va_D A (WD5 cI cC cZ a_F a_F_table a_F_spots a_F_points a_F_walls a_F_across a_F_bareLight a_T a_T_letters F_glow F_spotCount F_pointCount F_wallCount F_table F_spots F_points F_walls F_across F_bareLight T_length T_letters) → va_S A s.heap H locs → ∀ ls : Array Slot, lv_has ls 3 [(0, .ref a_F), (1, .ref a_T), (2, .int p2)] → W p l e rm_X1_read s m args below meth c H locs 0 0 (MQ below (kQV D (kTY cI cC cZ) A (WD5 cI cC cZ a_F a_F_table a_F_spots a_F_points a_F_walls a_F_across a_F_bareLight a_T a_T_letters u_F_glow u_F_spotCount u_F_pointCount u_F_wallCount u_F_table u_F_spots u_F_points u_F_walls u_F_across u_F_bareLight T_length T_letters)) args s 0 0 A) (F0 m 2 ls []) := by
  intro n
  induction n with
  | zero => intro F_table p2 h; cases (show (none : Option (Int32 × Int32 × Int32 × Int32 × (Nat → Int32) × (Nat → Int32) × (Nat → Int32) × (Nat → Int32) × (Nat → Int32) × (Nat → Int32))) = some _ from h)
  | succ n ih =>
    intro F_table p2 h H locs hP hD hS ls hl
    exact wk_X1_read_2 C0  (fun F_table p2 h H locs hP hD hS ls hl => ih F_table p2 h H locs hP hD hS ls hl) (show bk_X1_read_2  (lp_X1_read_2  F_glow F_spotCount F_pointCount F_wallCount F_spots F_points F_walls F_across F_bareLight T_length T_letters n) F_glow F_spotCount F_pointCount F_wallCount F_spots F_points F_walls F_across F_bareLight T_length T_letters F_table p2 = some _ from h) hP hD hS hl
noncomputable def f_X1_read (F_glow : Int32) (F_spotCount : Int32) (F_pointCount : Int32) (F_wallCount : Int32) (F_table : Nat → Int32) (F_spots : Nat → Int32) (F_points : Nat → Int32) (F_walls : Nat → Int32) (F_across : Nat → Int32) (F_bareLight : Nat → Int32) (T_length : Int32) (T_letters : Nat → Int32)  : Option (Int32 × Int32 × Int32 × Int32 × (Nat → Int32) × (Nat → Int32) × (Nat → Int32) × (Nat → Int32) × (Nat → Int32) × (Nat → Int32)) := lp_X1_read_2  F_glow F_spotCount F_pointCount F_wallCount F_spots F_points F_walls F_across F_bareLight T_length T_letters 1000 F_table (0 : Int32)
set_option maxHeartbeats 4000000 in
set_option maxRecDepth 100000 in
theorem c_X1_read (l : Launch) (D : va_G) (cI cC cZ : ClassId) (a_F a_F_table a_F_spots a_F_points a_F_walls a_F_across a_F_bareLight a_T a_T_letters : Nat) (sz : Nat) (F_glow : Int32) (F_spotCount : Int32) (F_pointCount : Int32) (F_wallCount : Int32) (F_table : Nat → Int32) (F_spots : Nat → Int32) (F_points : Nat → Int32) (F_walls : Nat → Int32) (F_across : Nat → Int32) (F_bareLight : Nat → Int32) (T_length : Int32) (T_letters : Nat → Int32) (u_F_glow : Int32) (u_F_spotCount : Int32) (u_F_pointCount : Int32) (u_F_wallCount : Int32) (u_F_table : Nat → Int32) (u_F_spots : Nat → Int32) (u_F_points : Nat → Int32) (u_F_walls : Nat → Int32) (u_F_across : Nat → Int32) (u_F_bareLight : Nat → Int32) (hf : f_X1_read F_glow F_spotCount F_pointCount F_wallCount F_table F_spots F_points F_walls F_across F_bareLight T_length T_letters = some (u_F_glow, u_F_spotCount, u_F_pointCount, u_F_wallCount, u_F_table, u_F_spots, u_F_points, u_F_walls, u_F_across, u_F_bareLight)) : kMet l yX1_read cX1_read 3 none rm_X1_read D (kTY cI cC cZ) [.ref a_F, .ref a_T] (WD5 cI cC cZ a_F a_F_table a_F_spots a_F_points a_F_walls a_F_across a_F_bareLight a_T a_T_letters F_glow F_spotCount F_pointCount F_wallCount F_table F_spots F_points F_walls F_across F_bareLight T_length T_letters) sz (kQV D (kTY cI cC cZ) (va_A (WD5 cI cC cZ a_F a_F_table a_F_spots a_F_points a_F_walls a_F_across a_F_bareLight a_T a_T_letters F_glow F_spotCount F_pointCount F_wallCount F_table F_spots F_points F_walls F_across F_bareLight T_length T_letters) sz) (WD5 cI cC cZ a_F a_F_table a_F_spots a_F_points a_F_walls a_F_across a_F_bareLight a_T a_T_letters u_F_glow u_F_spotCount u_F_pointCount u_F_wallCount u_F_table u_F_spots u_F_points u_F_walls u_F_across u_F_bareLight T_length T_letters)) := by
  refine kEnter (lv := [(0, .ref a_F), (1, .ref a_T)]) (own := RX1) (by decide) rfl (Nat.le_of_ble_eq_true rfl) rfl ?_
  intro p e s m below meth c hsz C0 hP hD hS ls hl
  generalize (va_A (WD5 cI cC cZ a_F a_F_table a_F_spots a_F_points a_F_walls a_F_across a_F_bareLight a_T a_T_letters F_glow F_spotCount F_pointCount F_wallCount F_table F_spots F_points F_walls F_across F_bareLight T_length T_letters) sz) = A at C0 hD hS ⊢
  clear hsz hS
  obtain ⟨H, hHs⟩ : ∃ H : Heap, H = s.heap := ⟨_, rfl⟩
  have hS : va_S A s.heap H [] := by rw [hHs]; exact va_S.rf
  rw [← hHs] at hP ⊢
  obtain ⟨hx, hb, hr, hml, hown, hts, hK, hN, hA, hlocks, hF⟩ := id C0
  have h := hf
  unfold f_X1_read at h
  refine lv_iconst (v := (0 : Int32)) hx hb dX1_read_0 (by decide) ?_
  refine lv_istore_n (lv' := [(2, .int (0 : Int32)), (0, .ref a_F), (1, .ref a_T)]) hx hb dX1_read_1 rfl hl (by decide) rfl (fun ls hl => ?_)
  exact wl_X1_read_2 C0  _ _ _ h _ _ hP hD hS _ (lv_sub hl [1, 2, 0] rfl)
abbrev rm_X1_wallsAcross : Room := { frames := 1, cells := 0, slots := 0, locals := 21 }
noncomputable def f_X1_wallsAcross (F_spotCount : Int32) (F_pointCount : Int32) (F_across : Nat → Int32) (p1 : Int32) (p2 : Int32) : Option (Int32) := (f_X1_hasSpot F_spotCount p1).bind (fun r2 => if r2 = 0 then (some (0 : Int32)) else ((f_X1_hasPoint F_pointCount p2).bind (fun r5 => if r5 = 0 then (some (0 : Int32)) else (if (((p1 * (6 : Int32)) + p2) < 0 ∨ 48 ≤ Int32.toNatClampNeg ((p1 * (6 : Int32)) + p2)) then none else (some (F_across (Int32.toNatClampNeg ((p1 * (6 : Int32)) + p2))))))))
set_option maxHeartbeats 4000000 in
set_option maxRecDepth 100000 in
theorem c_X1_wallsAcross (l : Launch) (D : va_G) (cI cC cZ : ClassId) (a_F a_F_table a_F_spots a_F_points a_F_walls a_F_across a_F_bareLight : Nat) (sz : Nat) (F_glow : Int32) (F_spotCount : Int32) (F_pointCount : Int32) (F_wallCount : Int32) (F_table : Nat → Int32) (F_spots : Nat → Int32) (F_points : Nat → Int32) (F_walls : Nat → Int32) (F_across : Nat → Int32) (F_bareLight : Nat → Int32) (p1 : Int32) (p2 : Int32) (rr : Int32) (hf : f_X1_wallsAcross F_spotCount F_pointCount F_across p1 p2 = some rr) : kMet l yX1_wallsAcross cX1_wallsAcross 3 (some .int) rm_X1_wallsAcross D (kTY cI cC cZ) [.ref a_F, .int p1, .int p2] (WD2 cI cC cZ a_F a_F_table a_F_spots a_F_points a_F_walls a_F_across a_F_bareLight F_glow F_spotCount F_pointCount F_wallCount F_table F_spots F_points F_walls F_across F_bareLight) sz (kQI D (kTY cI cC cZ) (va_A (WD2 cI cC cZ a_F a_F_table a_F_spots a_F_points a_F_walls a_F_across a_F_bareLight F_glow F_spotCount F_pointCount F_wallCount F_table F_spots F_points F_walls F_across F_bareLight) sz) rr (WD2 cI cC cZ a_F a_F_table a_F_spots a_F_points a_F_walls a_F_across a_F_bareLight F_glow F_spotCount F_pointCount F_wallCount F_table F_spots F_points F_walls F_across F_bareLight)) := by
  refine kEnter (lv := [(0, .ref a_F), (1, .int p1), (2, .int p2)]) (own := RX1) (by decide) rfl (Nat.le_of_ble_eq_true rfl) rfl ?_
  intro p e s m below meth c hsz C0 hP hD hS ls hl
  generalize (va_A (WD2 cI cC cZ a_F a_F_table a_F_spots a_F_points a_F_walls a_F_across a_F_bareLight F_glow F_spotCount F_pointCount F_wallCount F_table F_spots F_points F_walls F_across F_bareLight) sz) = A at C0 hD hS ⊢
  clear hsz hS
  obtain ⟨H, hHs⟩ : ∃ H : Heap, H = s.heap := ⟨_, rfl⟩
  have hS : va_S A s.heap H [] := by rw [hHs]; exact va_S.rf
  rw [← hHs] at hP ⊢
  obtain ⟨hx, hb, hr, hml, hown, hts, hK, hN, hA, hlocks, hF⟩ := id C0
  have h := hf
  unfold f_X1_wallsAcross at h
  refine lv_aload_n hx hb dX1_wallsAcross_0 rfl (lv_at hl 0 rfl) ?_
  refine lv_iload_n hx hb dX1_wallsAcross_1 rfl (lv_at hl 1 rfl) ?_
  obtain ⟨r2, hc1, h⟩ := oc_bind h
  refine kro_i (wc := (WD2 cI cC cZ a_F a_F_table a_F_spots a_F_points a_F_walls a_F_across a_F_bareLight F_glow F_spotCount F_pointCount F_wallCount F_table F_spots F_points F_walls F_across F_bareLight)) C0 hP hD hS [0, 1, 2, 3, 4, 5, 6] rfl (kV (n := 1) (As := [.int p1]) (rest := []) (wc := (WD2 cI cC cZ a_F a_F_table a_F_spots a_F_points a_F_walls a_F_across a_F_bareLight F_glow F_spotCount F_pointCount F_wallCount F_table F_spots F_points F_walls F_across F_bareLight)) (C := RX1) C0 hP hD hS [0, 1, 2, 3, 4, 5, 6] rfl (by decide) (c_X1_hasSpot l D cI cC cZ a_F a_F_table a_F_spots a_F_points a_F_walls a_F_across a_F_bareLight H.size F_glow F_spotCount F_pointCount F_wallCount F_table F_spots F_points F_walls F_across F_bareLight p1 r2 hc1) kw_287 kw_321 kw_285 kw_286 kw_19 (by decide +kernel) (by decide) rfl rfl rfl hl.1 rfl (Nat.le_of_ble_eq_true rfl) ⟨Nat.zero_le _, Nat.zero_le _⟩ dX1_wallsAcross_2) (fun H locs hP hS => ?_)
  refine lv_if_eq (tgt := 30) hx hb dX1_wallsAcross_5 (by decide) (fun c3 => ?_) (fun c3 => ?_)
  · have h := oc_t c3 h
    refine lv_iconst (v := (0 : Int32)) hx hb dX1_wallsAcross_30 (by decide) ?_
    cases h
    exact kret_i C0 hP hD hS rfl dX1_wallsAcross_31
  · have h := oc_f c3 h
    refine lv_aload_n hx hb dX1_wallsAcross_8 rfl (lv_at hl 0 rfl) ?_
    refine lv_iload_n hx hb dX1_wallsAcross_9 rfl (lv_at hl 2 rfl) ?_
    obtain ⟨r5, hc4, h⟩ := oc_bind h
    refine kro_i (wc := (WD2 cI cC cZ a_F a_F_table a_F_spots a_F_points a_F_walls a_F_across a_F_bareLight F_glow F_spotCount F_pointCount F_wallCount F_table F_spots F_points F_walls F_across F_bareLight)) C0 hP hD hS [0, 1, 2, 3, 4, 5, 6] rfl (kV (n := 1) (As := [.int p2]) (rest := []) (wc := (WD2 cI cC cZ a_F a_F_table a_F_spots a_F_points a_F_walls a_F_across a_F_bareLight F_glow F_spotCount F_pointCount F_wallCount F_table F_spots F_points F_walls F_across F_bareLight)) (C := RX1) C0 hP hD hS [0, 1, 2, 3, 4, 5, 6] rfl (by decide) (c_X1_hasPoint l D cI cC cZ a_F a_F_table a_F_spots a_F_points a_F_walls a_F_across a_F_bareLight H.size F_glow F_spotCount F_pointCount F_wallCount F_table F_spots F_points F_walls F_across F_bareLight p2 r5 hc4) kw_261 kw_322 kw_259 kw_260 kw_19 (by decide +kernel) (by decide) rfl rfl rfl hl.1 rfl (Nat.le_of_ble_eq_true rfl) ⟨Nat.zero_le _, Nat.zero_le _⟩ dX1_wallsAcross_10) (fun H locs hP hS => ?_)
    refine lv_if_eq (tgt := 30) hx hb dX1_wallsAcross_13 (by decide) (fun c6 => ?_) (fun c6 => ?_)
    · have h := oc_t c6 h
      refine lv_iconst (v := (0 : Int32)) hx hb dX1_wallsAcross_30 (by decide) ?_
      cases h
      exact kret_i C0 hP hD hS rfl dX1_wallsAcross_31
    · have h := oc_f c6 h
      refine lv_aload_n hx hb dX1_wallsAcross_16 rfl (lv_at hl 0 rfl) ?_
      refine va_get (D := D) (ci := 1) (v := .ref a_F_across) (C := RX1) (T := TX1) (N := 10) hx hb hts inlX1 hown hK hP 0 rfl rfl 4 (by decide) (hts _ kw_54) (fun _ h9 => h9) rfl dX1_wallsAcross_17 ?_
      refine lv_iload_n hx hb dX1_wallsAcross_20 rfl (lv_at hl 1 rfl) ?_
      refine lv_bipush (v := (6 : Int32)) hx hb dX1_wallsAcross_21 (by decide) ?_
      refine lv_imul hx hb dX1_wallsAcross_23 ?_
      refine lv_iload_n hx hb dX1_wallsAcross_24 rfl (lv_at hl 2 rfl) ?_
      refine lv_iadd hx hb dX1_wallsAcross_25 ?_
      obtain ⟨hb7, h⟩ := oc_else h
      refine va_iald hx hb hK hP 5 0 rfl rfl hb7 dX1_wallsAcross_26 ?_
      refine lv_goto (tgt := 31) hx hb dX1_wallsAcross_27 (by decide) ?_
      cases h
      exact kret_i C0 hP hD hS rfl dX1_wallsAcross_31
abbrev rm_X1_lightOf : Room := { frames := 1, cells := 0, slots := 0, locals := 21 }
noncomputable def f_X1_lightOf (F_spotCount : Int32) (F_pointCount : Int32) (F_across : Nat → Int32) (F_bareLight : Nat → Int32) (p1 : Int32) (p2 : Int32) (p3 : Int32) : Option (Int32) := (f_X1_hasSpot F_spotCount p1).bind (fun r2 => if r2 = 0 then (some (0 : Int32)) else ((f_X1_hasPoint F_pointCount p2).bind (fun r5 => if r5 = 0 then (some (0 : Int32)) else (nm_ ((p1 * (6 : Int32)) + p2) (fun t7 => if (t7 < 0 ∨ 48 ≤ Int32.toNatClampNeg t7) then none else (if ((F_across (Int32.toNatClampNeg t7)) &&& p3) = 0 then (if (t7 < 0 ∨ 48 ≤ Int32.toNatClampNeg t7) then none else (some (F_bareLight (Int32.toNatClampNeg t7)))) else (some (0 : Int32))))))))
set_option maxHeartbeats 4000000 in
set_option maxRecDepth 100000 in
theorem c_X1_lightOf (l : Launch) (D : va_G) (cI cC cZ : ClassId) (a_F a_F_table a_F_spots a_F_points a_F_walls a_F_across a_F_bareLight : Nat) (sz : Nat) (F_glow : Int32) (F_spotCount : Int32) (F_pointCount : Int32) (F_wallCount : Int32) (F_table : Nat → Int32) (F_spots : Nat → Int32) (F_points : Nat → Int32) (F_walls : Nat → Int32) (F_across : Nat → Int32) (F_bareLight : Nat → Int32) (p1 : Int32) (p2 : Int32) (p3 : Int32) (rr : Int32) (hf : f_X1_lightOf F_spotCount F_pointCount F_across F_bareLight p1 p2 p3 = some rr) : kMet l yX1_lightOf cX1_lightOf 5 (some .int) rm_X1_lightOf D (kTY cI cC cZ) [.ref a_F, .int p1, .int p2, .int p3] (WD2 cI cC cZ a_F a_F_table a_F_spots a_F_points a_F_walls a_F_across a_F_bareLight F_glow F_spotCount F_pointCount F_wallCount F_table F_spots F_points F_walls F_across F_bareLight) sz (kQI D (kTY cI cC cZ) (va_A (WD2 cI cC cZ a_F a_F_table a_F_spots a_F_points a_F_walls a_F_across a_F_bareLight F_glow F_spotCount F_pointCount F_wallCount F_table F_spots F_points F_walls F_across F_bareLight) sz) rr (WD2 cI cC cZ a_F a_F_table a_F_spots a_F_points a_F_walls a_F_across a_F_bareLight F_glow F_spotCount F_pointCount F_wallCount F_table F_spots F_points F_walls F_across F_bareLight)) := by
  refine kEnter (lv := [(0, .ref a_F), (1, .int p1), (2, .int p2), (3, .int p3)]) (own := RX1) (by decide) rfl (Nat.le_of_ble_eq_true rfl) rfl ?_
  intro p e s m below meth c hsz C0 hP hD hS ls hl
  generalize (va_A (WD2 cI cC cZ a_F a_F_table a_F_spots a_F_points a_F_walls a_F_across a_F_bareLight F_glow F_spotCount F_pointCount F_wallCount F_table F_spots F_points F_walls F_across F_bareLight) sz) = A at C0 hD hS ⊢
  clear hsz hS
  obtain ⟨H, hHs⟩ : ∃ H : Heap, H = s.heap := ⟨_, rfl⟩
  have hS : va_S A s.heap H [] := by rw [hHs]; exact va_S.rf
  rw [← hHs] at hP ⊢
  obtain ⟨hx, hb, hr, hml, hown, hts, hK, hN, hA, hlocks, hF⟩ := id C0
  have h := hf
  unfold f_X1_lightOf at h
  refine lv_aload_n hx hb dX1_lightOf_0 rfl (lv_at hl 0 rfl) ?_
  refine lv_iload_n hx hb dX1_lightOf_1 rfl (lv_at hl 1 rfl) ?_
  obtain ⟨r2, hc1, h⟩ := oc_bind h
  refine kro_i (wc := (WD2 cI cC cZ a_F a_F_table a_F_spots a_F_points a_F_walls a_F_across a_F_bareLight F_glow F_spotCount F_pointCount F_wallCount F_table F_spots F_points F_walls F_across F_bareLight)) C0 hP hD hS [0, 1, 2, 3, 4, 5, 6] rfl (kV (n := 1) (As := [.int p1]) (rest := []) (wc := (WD2 cI cC cZ a_F a_F_table a_F_spots a_F_points a_F_walls a_F_across a_F_bareLight F_glow F_spotCount F_pointCount F_wallCount F_table F_spots F_points F_walls F_across F_bareLight)) (C := RX1) C0 hP hD hS [0, 1, 2, 3, 4, 5, 6] rfl (by decide) (c_X1_hasSpot l D cI cC cZ a_F a_F_table a_F_spots a_F_points a_F_walls a_F_across a_F_bareLight H.size F_glow F_spotCount F_pointCount F_wallCount F_table F_spots F_points F_walls F_across F_bareLight p1 r2 hc1) kw_287 kw_321 kw_285 kw_286 kw_19 (by decide +kernel) (by decide) rfl rfl rfl hl.1 rfl (Nat.le_of_ble_eq_true rfl) ⟨Nat.zero_le _, Nat.zero_le _⟩ dX1_lightOf_2) (fun H locs hP hS => ?_)
  refine lv_if_eq (tgt := 16) hx hb dX1_lightOf_5 (by decide) (fun c3 => ?_) (fun c3 => ?_)
  · have h := oc_t c3 h
    refine lv_iconst (v := (0 : Int32)) hx hb dX1_lightOf_16 (by decide) ?_
    cases h
    exact kret_i C0 hP hD hS rfl dX1_lightOf_17
  · have h := oc_f c3 h
    refine lv_aload_n hx hb dX1_lightOf_8 rfl (lv_at hl 0 rfl) ?_
    refine lv_iload_n hx hb dX1_lightOf_9 rfl (lv_at hl 2 rfl) ?_
    obtain ⟨r5, hc4, h⟩ := oc_bind h
    refine kro_i (wc := (WD2 cI cC cZ a_F a_F_table a_F_spots a_F_points a_F_walls a_F_across a_F_bareLight F_glow F_spotCount F_pointCount F_wallCount F_table F_spots F_points F_walls F_across F_bareLight)) C0 hP hD hS [0, 1, 2, 3, 4, 5, 6] rfl (kV (n := 1) (As := [.int p2]) (rest := []) (wc := (WD2 cI cC cZ a_F a_F_table a_F_spots a_F_points a_F_walls a_F_across a_F_bareLight F_glow F_spotCount F_pointCount F_wallCount F_table F_spots F_points F_walls F_across F_bareLight)) (C := RX1) C0 hP hD hS [0, 1, 2, 3, 4, 5, 6] rfl (by decide) (c_X1_hasPoint l D cI cC cZ a_F a_F_table a_F_spots a_F_points a_F_walls a_F_across a_F_bareLight H.size F_glow F_spotCount F_pointCount F_wallCount F_table F_spots F_points F_walls F_across F_bareLight p2 r5 hc4) kw_261 kw_322 kw_259 kw_260 kw_19 (by decide +kernel) (by decide) rfl rfl rfl hl.1 rfl (Nat.le_of_ble_eq_true rfl) ⟨Nat.zero_le _, Nat.zero_le _⟩ dX1_lightOf_10) (fun H locs hP hS => ?_)
    refine lv_if_ne (tgt := 18) hx hb dX1_lightOf_13 (by decide) (fun c6 => ?_) (fun c6 => ?_)
    · have h := oc_f c6 h
      refine lv_iload_n hx hb dX1_lightOf_18 rfl (lv_at hl 1 rfl) ?_
      refine lv_bipush (v := (6 : Int32)) hx hb dX1_lightOf_19 (by decide) ?_
      refine lv_imul hx hb dX1_lightOf_21 ?_
      refine lv_iload_n hx hb dX1_lightOf_22 rfl (lv_at hl 2 rfl) ?_
      refine lv_iadd hx hb dX1_lightOf_23 ?_
      refine lv_topi (fun t7 e_t7 => ?_)
      have h := oc_nm e_t7 h
      refine lv_istore (lv' := [(4, .int t7), (0, .ref a_F), (1, .int p1), (2, .int p2), (3, .int p3)]) hx hb dX1_lightOf_24 hl (by decide) rfl (fun ls hl => ?_)
      refine lv_aload_n hx hb dX1_lightOf_26 rfl (lv_at hl 1 rfl) ?_
      refine va_get (D := D) (ci := 1) (v := .ref a_F_across) (C := RX1) (T := TX1) (N := 10) hx hb hts inlX1 hown hK hP 0 rfl rfl 4 (by decide) (hts _ kw_54) (fun _ h9 => h9) rfl dX1_lightOf_27 ?_
      refine lv_iload hx hb dX1_lightOf_30 (lv_at hl 0 rfl) ?_
      obtain ⟨hb8, h⟩ := oc_else h
      refine va_iald hx hb hK hP 5 0 rfl rfl hb8 dX1_lightOf_32 ?_
      refine lv_iload_n hx hb dX1_lightOf_33 rfl (lv_at hl 4 rfl) ?_
      refine lv_iand hx hb dX1_lightOf_34 ?_
      refine lv_if_eq (tgt := 42) hx hb dX1_lightOf_35 (by decide) (fun c9 => ?_) (fun c9 => ?_)
      · have h := oc_t c9 h
        refine lv_aload_n hx hb dX1_lightOf_42 rfl (lv_at hl 1 rfl) ?_
        refine va_get (D := D) (ci := 1) (v := .ref a_F_bareLight) (C := RX1) (T := TX1) (N := 10) hx hb hts inlX1 hown hK hP 0 rfl rfl 5 (by decide) (hts _ kw_55) (fun _ h9 => h9) rfl dX1_lightOf_43 ?_
        refine lv_iload hx hb dX1_lightOf_46 (lv_at hl 0 rfl) ?_
        obtain ⟨hb10, h⟩ := oc_else h
        refine va_iald hx hb hK hP 6 0 rfl rfl hb10 dX1_lightOf_48 ?_
        cases h
        exact kret_i C0 hP hD hS rfl dX1_lightOf_49
      · have h := oc_f c9 h
        refine lv_iconst (v := (0 : Int32)) hx hb dX1_lightOf_38 (by decide) ?_
        refine lv_goto (tgt := 49) hx hb dX1_lightOf_39 (by decide) ?_
        cases h
        exact kret_i C0 hP hD hS rfl dX1_lightOf_49
    · have h := oc_t c6 h
      refine lv_iconst (v := (0 : Int32)) hx hb dX1_lightOf_16 (by decide) ?_
      cases h
      exact kret_i C0 hP hD hS rfl dX1_lightOf_17
abbrev rm_X1_sumAt : Room := { frames := 2, cells := 0, slots := 0, locals := 45 }
noncomputable def bk_X1_sumAt_9 (k9 : Int32 → Int32 → Option (Int32)) (F_spotCount : Int32) (F_pointCount : Int32) (F_across : Nat → Int32) (F_bareLight : Nat → Int32) (p1 : Int32) (p2 : Int32) (p3 : Int32) (p4 : Int32) (p5 : Int32) : Option (Int32) := if F_spotCount ≤ p5 then (some p4) else (if ((p2 >>> (p5 &&& 31)) &&& (1 : Int32)) = 0 then (nm_ (p5 + (1 : Int32)) (fun t3 => k9 p4 t3)) else ((f_X1_lightOf F_spotCount F_pointCount F_across F_bareLight p5 p1 p3).bind (fun r5 => nm_ (p4 + r5) (fun t6 => nm_ (p5 + (1 : Int32)) (fun t7 => k9 t6 t7)))))
set_option maxHeartbeats 4000000 in
set_option maxRecDepth 100000 in
theorem wk_X1_sumAt_9 {p : Program} {l : Launch} {e : Env} {s : State} {m : MethodId} {args : Array Value} {below : List Frame} {meth : Method} {c : Code} {D : va_G} {cI cC cZ : ClassId} {A : Nat → Prop} {a_F a_F_table a_F_spots a_F_points a_F_walls a_F_across a_F_bareLight : Nat} {F_glow : Int32} {F_spotCount : Int32} {F_pointCount : Int32} {F_wallCount : Int32} {F_table : Nat → Int32} {F_spots : Nat → Int32} {F_points : Nat → Int32} {F_walls : Nat → Int32} {F_across : Nat → Int32} {F_bareLight : Nat → Int32} {p1 : Int32} {p2 : Int32} {p3 : Int32} {p4 : Int32} {p5 : Int32} {k9 : Int32 → Int32 → Option (Int32)} {rr : Int32} (C0 : kC p s m args meth c D (kTY cI cC cZ) cX1_sumAt (some .int) 6 RX1 A) (hk9 : ∀ (p4_k : Int32) (p5_k : Int32), k9 p4_k p5_k = some rr → ∀ (H : Heap) (locs : List Loc), va_P D vwCl (WD2 cI cC cZ a_F a_F_table a_F_spots a_F_points a_F_walls a_F_across a_F_bareLight F_glow F_spotCount F_pointCount F_wallCount F_table F_spots F_points F_walls F_across F_bareLight) H → va_D A (WD2 cI cC cZ a_F a_F_table a_F_spots a_F_points a_F_walls a_F_across a_F_bareLight F_glow F_spotCount F_pointCount F_wallCount F_table F_spots F_points F_walls F_across F_bareLight) → va_S A s.heap H locs → ∀ ls : Array Slot, lv_has ls 6 [(0, .ref a_F), (1, .int p1), (2, .int p2), (3, .int p3), (4, .int p4_k), (5, .int p5_k)] → W p l e rm_X1_sumAt s m args below meth c H locs 0 0 (MQ below (kQI D (kTY cI cC cZ) A rr (WD2 cI cC cZ a_F a_F_table a_F_spots a_F_points a_F_walls a_F_across a_F_bareLight F_glow F_spotCount F_pointCount F_wallCount F_table F_spots F_points F_walls F_across F_bareLight)) args s 0 0 A) (F0 m 9 ls [])) (h : bk_X1_sumAt_9 k9 F_spotCount F_pointCount F_across F_bareLight p1 p2 p3 p4 p5 = some rr) {H : Heap} {locs : List Loc} (hP : va_P D vwCl (WD2 cI cC cZ a_F a_F_table a_F_spots a_F_points a_F_walls a_F_across a_F_bareLight F_glow F_spotCount F_pointCount F_wallCount F_table F_spots F_points F_walls F_across F_bareLight) H) (hD : va_D A (WD2 cI cC cZ a_F a_F_table a_F_spots a_F_points a_F_walls a_F_across a_F_bareLight F_glow F_spotCount F_pointCount F_wallCount F_table F_spots F_points F_walls F_across F_bareLight)) (hS : va_S A s.heap H locs) {ls : Array Slot} (hl : lv_has ls 6 [(0, .ref a_F), (1, .int p1), (2, .int p2), (3, .int p3), (4, .int p4), (5, .int p5)]) : W p l e rm_X1_sumAt s m args below meth c H locs 0 0 (MQ below (kQI D (kTY cI cC cZ) A rr (WD2 cI cC cZ a_F a_F_table a_F_spots a_F_points a_F_walls a_F_across a_F_bareLight F_glow F_spotCount F_pointCount F_wallCount F_table F_spots F_points F_walls F_across F_bareLight)) args s 0 0 A) (F0 m 9 ls []) := by
  obtain ⟨hx, hb, hr, hml, hown, hts, hK, hN, hA, hlocks, hF⟩ := id C0
  unfold bk_X1_sumAt_9 at h
  refine lv_iload hx hb dX1_sumAt_9 (lv_at hl 5 rfl) ?_
  refine lv_aload_n hx hb dX1_sumAt_11 rfl (lv_at hl 0 rfl) ?_
  refine va_get (D := D) (ci := 1) (v := .int F_spotCount) (C := RX1) (T := TX1) (N := 10) hx hb hts inlX1 hown hK hP 0 rfl rfl 7 (by decide) (hts _ kw_207) (fun _ h9 => h9) rfl dX1_sumAt_12 ?_
  refine lv_icmp_ge (tgt := 46) hx hb dX1_sumAt_15 (by decide) (fun c1 => ?_) (fun c1 => ?_)
  · have h := oc_t c1 h
    refine lv_iload hx hb dX1_sumAt_46 (lv_at hl 4 rfl) ?_
    cases h
    exact kret_i C0 hP hD hS rfl dX1_sumAt_48
  · have h := oc_f c1 h
    refine lv_iload_n hx hb dX1_sumAt_18 rfl (lv_at hl 2 rfl) ?_
    refine lv_iload hx hb dX1_sumAt_19 (lv_at hl 5 rfl) ?_
    refine lv_ishr hx hb dX1_sumAt_21 ?_
    refine lv_iconst (v := (1 : Int32)) hx hb dX1_sumAt_22 (by decide) ?_
    refine lv_iand hx hb dX1_sumAt_23 ?_
    refine lv_if_eq (tgt := 40) hx hb dX1_sumAt_24 (by decide) (fun c2 => ?_) (fun c2 => ?_)
    · have h := oc_t c2 h
      obtain ⟨t3, e_t3⟩ : ∃ y : Int32, y = p5 + (1 : Int32) := ⟨_, rfl⟩
      have h := oc_nm e_t3 h
      refine lv_iinc (v := t3) (lv' := [(5, .int t3), (0, .ref a_F), (1, .int p1), (2, .int p2), (3, .int p3), (4, .int p4)]) hx hb dX1_sumAt_40 hl (k := 5) rfl (by rw [e_t3]; rfl) (by decide) rfl (fun ls hl => ?_)
      refine lv_goto (tgt := 9) hx hb dX1_sumAt_43 (by decide) ?_
      exact hk9 _ _ h _ _ hP hD hS _ (lv_sub hl [1, 2, 3, 4, 5, 0] rfl)
    · have h := oc_f c2 h
      refine lv_iload hx hb dX1_sumAt_27 (lv_at hl 4 rfl) ?_
      refine lv_aload_n hx hb dX1_sumAt_29 rfl (lv_at hl 0 rfl) ?_
      refine lv_iload hx hb dX1_sumAt_30 (lv_at hl 5 rfl) ?_
      refine lv_iload_n hx hb dX1_sumAt_32 rfl (lv_at hl 1 rfl) ?_
      refine lv_iload_n hx hb dX1_sumAt_33 rfl (lv_at hl 3 rfl) ?_
      obtain ⟨r5, hc4, h⟩ := oc_bind h
      refine kro_i (wc := (WD2 cI cC cZ a_F a_F_table a_F_spots a_F_points a_F_walls a_F_across a_F_bareLight F_glow F_spotCount F_pointCount F_wallCount F_table F_spots F_points F_walls F_across F_bareLight)) C0 hP hD hS [0, 1, 2, 3, 4, 5, 6] rfl (kV (n := 3) (As := [.int p5, .int p1, .int p3]) (rest := [.int p4]) (wc := (WD2 cI cC cZ a_F a_F_table a_F_spots a_F_points a_F_walls a_F_across a_F_bareLight F_glow F_spotCount F_pointCount F_wallCount F_table F_spots F_points F_walls F_across F_bareLight)) (C := RX1) C0 hP hD hS [0, 1, 2, 3, 4, 5, 6] rfl (by decide) (c_X1_lightOf l D cI cC cZ a_F a_F_table a_F_spots a_F_points a_F_walls a_F_across a_F_bareLight H.size F_glow F_spotCount F_pointCount F_wallCount F_table F_spots F_points F_walls F_across F_bareLight p5 p1 p3 r5 hc4) kw_320 kw_317 kw_318 kw_319 kw_19 (by decide +kernel) (by decide) rfl rfl rfl hl.1 rfl (Nat.le_of_ble_eq_true rfl) ⟨Nat.zero_le _, Nat.zero_le _⟩ dX1_sumAt_34) (fun H locs hP hS => ?_)
      refine lv_iadd hx hb dX1_sumAt_37 ?_
      refine lv_topi (fun t6 e_t6 => ?_)
      have h := oc_nm e_t6 h
      refine lv_istore (lv' := [(4, .int t6), (0, .ref a_F), (1, .int p1), (2, .int p2), (3, .int p3), (5, .int p5)]) hx hb dX1_sumAt_38 hl (by decide) rfl (fun ls hl => ?_)
      obtain ⟨t7, e_t7⟩ : ∃ y : Int32, y = p5 + (1 : Int32) := ⟨_, rfl⟩
      have h := oc_nm e_t7 h
      refine lv_iinc (v := t7) (lv' := [(5, .int t7), (4, .int t6), (0, .ref a_F), (1, .int p1), (2, .int p2), (3, .int p3)]) hx hb dX1_sumAt_40 hl (k := 5) rfl (by rw [e_t7]; rfl) (by decide) rfl (fun ls hl => ?_)
      refine lv_goto (tgt := 9) hx hb dX1_sumAt_43 (by decide) ?_
      exact hk9 _ _ h _ _ hP hD hS _ (lv_sub hl [2, 3, 4, 5, 1, 0] rfl)
noncomputable def lp_X1_sumAt_9  (F_spotCount : Int32) (F_pointCount : Int32) (F_across : Nat → Int32) (F_bareLight : Nat → Int32) (p1 : Int32) (p2 : Int32) (p3 : Int32) (n : Nat) : Int32 → Int32 → Option (Int32) := Nat.rec (motive := fun _ => Int32 → Int32 → Option (Int32)) (fun _ _ => none) (fun _ ih => bk_X1_sumAt_9  ih F_spotCount F_pointCount F_across F_bareLight p1 p2 p3) n
set_option maxHeartbeats 4000000 in
set_option maxRecDepth 100000 in
theorem wl_X1_sumAt_9 {p : Program} {l : Launch} {e : Env} {s : State} {m : MethodId} {args : Array Value} {below : List Frame} {meth : Method} {c : Code} {D : va_G} {cI cC cZ : ClassId} {A : Nat → Prop} {a_F a_F_table a_F_spots a_F_points a_F_walls a_F_across a_F_bareLight : Nat} {F_glow : Int32} {F_spotCount : Int32} {F_pointCount : Int32} {F_wallCount : Int32} {F_table : Nat → Int32} {F_spots : Nat → Int32} {F_points : Nat → Int32} {F_walls : Nat → Int32} {F_across : Nat → Int32} {F_bareLight : Nat → Int32} {p1 : Int32} {p2 : Int32} {p3 : Int32}  {rr : Int32} (C0 : kC p s m args meth c D (kTY cI cC cZ) cX1_sumAt (some .int) 6 RX1 A)  : ∀ (n : Nat) (p4 : Int32) (p5 : Int32), lp_X1_sumAt_9  F_spotCount F_pointCount F_across F_bareLight p1 p2 p3 n p4 p5 = some rr → ∀ (H : Heap) (locs : List Loc), va_P D vwCl (WD2 cI cC cZ a_F a_F_table a_F_spots a_F_points a_F_walls a_F_across a_F_bareLight F_glow F_spotCount F_pointCount F_wallCount F_table F_spots F_points F_walls F_across F_bareLight) H → va_D A (WD2 cI cC cZ a_F a_F_table a_F_spots a_F_points a_F_walls a_F_across a_F_bareLight F_glow F_spotCount F_pointCount F_wallCount F_table F_spots F_points F_walls F_across F_bareLight) → va_S A s.heap H locs → ∀ ls : Array Slot, lv_has ls 6 [(0, .ref a_F), (1, .int p1), (2, .int p2), (3, .int p3), (4, .int p4), (5, .int p5)] → W p l e rm_X1_sumAt s m args below meth c H locs 0 0 (MQ below (kQI D (kTY cI cC cZ) A rr (WD2 cI cC cZ a_F a_F_table a_F_spots a_F_points a_F_walls a_F_across a_F_bareLight F_glow F_spotCount F_pointCount F_wallCount F_table F_spots F_points F_walls F_across F_bareLight)) args s 0 0 A) (F0 m 9 ls []) := by
  intro n
  induction n with
  | zero => intro p4 p5 h; cases (show (none : Option (Int32)) = some _ from h)
  | succ n ih =>
    intro p4 p5 h H locs hP hD hS ls hl
    exact wk_X1_sumAt_9 C0  (fun p4 p5 h H locs hP hD hS ls hl => ih p4 p5 h H locs hP hD hS ls hl) (show bk_X1_sumAt_9  (lp_X1_sumAt_9  F_spotCount F_pointCount F_across F_bareLight p1 p2 p3 n) F_spotCount F_pointCount F_across F_bareLight p1 p2 p3 p4 p5 = some _ from h) hP hD hS hl
noncomputable def f_X1_sumAt (F_glow : Int32) (F_spotCount : Int32) (F_pointCount : Int32) (F_across : Nat → Int32) (F_bareLight : Nat → Int32) (p1 : Int32) (p2 : Int32) (p3 : Int32) : Option (Int32) := lp_X1_sumAt_9  F_spotCount F_pointCount F_across F_bareLight p1 p2 p3 1000 F_glow (0 : Int32)
set_option maxHeartbeats 4000000 in
set_option maxRecDepth 100000 in
theorem c_X1_sumAt (l : Launch) (D : va_G) (cI cC cZ : ClassId) (a_F a_F_table a_F_spots a_F_points a_F_walls a_F_across a_F_bareLight : Nat) (sz : Nat) (F_glow : Int32) (F_spotCount : Int32) (F_pointCount : Int32) (F_wallCount : Int32) (F_table : Nat → Int32) (F_spots : Nat → Int32) (F_points : Nat → Int32) (F_walls : Nat → Int32) (F_across : Nat → Int32) (F_bareLight : Nat → Int32) (p1 : Int32) (p2 : Int32) (p3 : Int32) (rr : Int32) (hf : f_X1_sumAt F_glow F_spotCount F_pointCount F_across F_bareLight p1 p2 p3 = some rr) : kMet l yX1_sumAt cX1_sumAt 6 (some .int) rm_X1_sumAt D (kTY cI cC cZ) [.ref a_F, .int p1, .int p2, .int p3] (WD2 cI cC cZ a_F a_F_table a_F_spots a_F_points a_F_walls a_F_across a_F_bareLight F_glow F_spotCount F_pointCount F_wallCount F_table F_spots F_points F_walls F_across F_bareLight) sz (kQI D (kTY cI cC cZ) (va_A (WD2 cI cC cZ a_F a_F_table a_F_spots a_F_points a_F_walls a_F_across a_F_bareLight F_glow F_spotCount F_pointCount F_wallCount F_table F_spots F_points F_walls F_across F_bareLight) sz) rr (WD2 cI cC cZ a_F a_F_table a_F_spots a_F_points a_F_walls a_F_across a_F_bareLight F_glow F_spotCount F_pointCount F_wallCount F_table F_spots F_points F_walls F_across F_bareLight)) := by
  refine kEnter (lv := [(0, .ref a_F), (1, .int p1), (2, .int p2), (3, .int p3)]) (own := RX1) (by decide) rfl (Nat.le_of_ble_eq_true rfl) rfl ?_
  intro p e s m below meth c hsz C0 hP hD hS ls hl
  generalize (va_A (WD2 cI cC cZ a_F a_F_table a_F_spots a_F_points a_F_walls a_F_across a_F_bareLight F_glow F_spotCount F_pointCount F_wallCount F_table F_spots F_points F_walls F_across F_bareLight) sz) = A at C0 hD hS ⊢
  clear hsz hS
  obtain ⟨H, hHs⟩ : ∃ H : Heap, H = s.heap := ⟨_, rfl⟩
  have hS : va_S A s.heap H [] := by rw [hHs]; exact va_S.rf
  rw [← hHs] at hP ⊢
  obtain ⟨hx, hb, hr, hml, hown, hts, hK, hN, hA, hlocks, hF⟩ := id C0
  have h := hf
  unfold f_X1_sumAt at h
  refine lv_aload_n hx hb dX1_sumAt_0 rfl (lv_at hl 0 rfl) ?_
  refine va_get (D := D) (ci := 1) (v := .int F_glow) (C := RX1) (T := TX1) (N := 10) hx hb hts inlX1 hown hK hP 0 rfl rfl 6 (by decide) (hts _ kw_206) (fun _ h9 => h9) rfl dX1_sumAt_1 ?_
  refine lv_istore (lv' := [(4, .int F_glow), (0, .ref a_F), (1, .int p1), (2, .int p2), (3, .int p3)]) hx hb dX1_sumAt_4 hl (by decide) rfl (fun ls hl => ?_)
  refine lv_iconst (v := (0 : Int32)) hx hb dX1_sumAt_6 (by decide) ?_
  refine lv_istore (lv' := [(5, .int (0 : Int32)), (4, .int F_glow), (0, .ref a_F), (1, .int p1), (2, .int p2), (3, .int p3)]) hx hb dX1_sumAt_7 hl (by decide) rfl (fun ls hl => ?_)
  exact wl_X1_sumAt_9 C0  _ _ _ h _ _ hP hD hS _ (lv_sub hl [2, 3, 4, 5, 1, 0] rfl)
