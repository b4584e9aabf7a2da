abbrev WD8 (cI cC cZ : ClassId) (a_A a_A_kinds a_A_numbers a_A_befores : Nat) (A_size : Int32) (A_kinds : Nat → Int32) (A_numbers : Nat → Int32) (A_befores : Nat → Int32) : va_W := [(a_A, .inr (0, [.ref a_A_kinds, .ref a_A_numbers, .ref a_A_befores, .int A_size])), (a_A_kinds, .inl (cI, 14, .inl A_kinds)), (a_A_numbers, .inl (cI, 14, .inl A_numbers)), (a_A_befores, .inl (cI, 14, .inl A_befores))]
abbrev rm_X0_forgetFirst : Room := { frames := 0, cells := 0, slots := 0, locals := 0 }
noncomputable def bk_X0_forgetFirst_2 (k2 : (Nat → Int32) → (Nat → Int32) → (Nat → Int32) → Int32 → Option (Int32 × (Nat → Int32) × (Nat → Int32) × (Nat → Int32))) (A_size : Int32) (A_kinds : Nat → Int32) (A_numbers : Nat → Int32) (A_befores : Nat → Int32) (p1 : Int32) : Option (Int32 × (Nat → Int32) × (Nat → Int32) × (Nat → Int32)) := if (14 : Int32) ≤ p1 then (some ((13 : Int32), A_kinds, A_numbers, A_befores)) else (if (p1 < 0 ∨ 14 ≤ Int32.toNatClampNeg p1) then none else (if ((p1 - (1 : Int32)) < 0 ∨ 14 ≤ Int32.toNatClampNeg (p1 - (1 : Int32))) then none else (if (p1 < 0 ∨ 14 ≤ Int32.toNatClampNeg p1) then none else (if ((p1 - (1 : Int32)) < 0 ∨ 14 ≤ Int32.toNatClampNeg (p1 - (1 : Int32))) then none else (if (p1 < 0 ∨ 14 ≤ Int32.toNatClampNeg p1) then none else (if ((p1 - (1 : Int32)) < 0 ∨ 14 ≤ Int32.toNatClampNeg (p1 - (1 : Int32))) then none else (nm_ (p1 + (1 : Int32)) (fun t8 => k2 (upd A_kinds (Int32.toNatClampNeg (p1 - (1 : Int32))) (A_kinds (Int32.toNatClampNeg p1))) (upd A_numbers (Int32.toNatClampNeg (p1 - (1 : Int32))) (A_numbers (Int32.toNatClampNeg p1))) (upd A_befores (Int32.toNatClampNeg (p1 - (1 : Int32))) (A_befores (Int32.toNatClampNeg p1))) t8))))))))
set_option maxHeartbeats 4000000 in
set_option maxRecDepth 100000 in
theorem wk_X0_forgetFirst_2 {p : Program} {l : Launch} {e : Env} {s : State} {m : MethodId} {args : Array Value} {below : List Frame} {meth : Method} {c : Code} {D : va_G} {cI cC cZ : ClassId} {A : Nat → Prop} {a_A a_A_kinds a_A_numbers a_A_befores : Nat} {A_size : Int32} {A_kinds : Nat → Int32} {A_numbers : Nat → Int32} {A_befores : Nat → Int32} {p1 : Int32} {k2 : (Nat → Int32) → (Nat → Int32) → (Nat → Int32) → Int32 → Option (Int32 × (Nat → Int32) × (Nat → Int32) × (Nat → Int32))} {u_A_size : Int32} {u_A_kinds : Nat → Int32} {u_A_numbers : Nat → Int32} {u_A_befores : Nat → Int32} (C0 : kC p s m args meth c D (kTY cI cC cZ) cX0_forgetFirst none 2 RX0 A) (hk2 : ∀ (A_kinds_k : Nat → Int32) (A_numbers_k : Nat → Int32) (A_befores_k : Nat → Int32) (p1_k : Int32), k2 A_kinds_k A_numbers_k A_befores_k p1_k = some (u_A_size, u_A_kinds, u_A_numbers, u_A_befores) → ∀ (H : Heap) (locs : List Loc), va_P D vwCl (WD8 cI cC cZ a_A a_A_kinds a_A_numbers a_A_befores A_size A_kinds_k A_numbers_k A_befores_k) H → va_D A (WD8 cI cC cZ a_A a_A_kinds a_A_numbers a_A_befores A_size A_kinds_k A_numbers_k A_befores_k) → va_S A s.heap H locs → ∀ ls : Array Slot, lv_has ls 2 [(0, .ref a_A), (1, .int p1_k)] → W p l e rm_X0_forgetFirst s m args below meth c H locs 0 0 (MQ below (kQV D (kTY cI cC cZ) A (WD8 cI cC cZ a_A a_A_kinds a_A_numbers a_A_befores u_A_size u_A_kinds u_A_numbers u_A_befores)) args s 0 0 A) (F0 m 2 ls [])) (h : bk_X0_forgetFirst_2 k2 A_size A_kinds A_numbers A_befores p1 = some (u_A_size, u_A_kinds, u_A_numbers, u_A_befores)) {H : Heap} {locs : List Loc} (hP : va_P D vwCl (WD8 cI cC cZ a_A a_A_kinds a_A_numbers a_A_befores A_size A_kinds A_numbers A_befores) H) (hD : va_D A (WD8 cI cC cZ a_A a_A_kinds a_A_numbers a_A_befores A_size A_kinds A_numbers A_befores)) (hS : va_S A s.heap H locs) {ls : Array Slot} (hl : lv_has ls 2 [(0, .ref a_A), (1, .int p1)]) : W p l e rm_X0_forgetFirst s m args below meth c H locs 0 0 (MQ below (kQV D (kTY cI cC cZ) A (WD8 cI cC cZ a_A a_A_kinds a_A_numbers a_A_befores u_A_size u_A_kinds u_A_numbers u_A_befores)) args s 0 0 A) (F0 m 2 ls []) := by
  obtain ⟨hx, hb, hr, hml, hown, hts, hK, hN, hA, hlocks, hF⟩ := id C0
  unfold bk_X0_forgetFirst_2 at h
  refine lv_iload_n hx hb dX0_forgetFirst_2 rfl (lv_at hl 1 rfl) ?_
  refine lv_bipush (v := (14 : Int32)) hx hb dX0_forgetFirst_3 (by decide) ?_
  refine lv_icmp_ge (tgt := 56) hx hb dX0_forgetFirst_5 (by decide) (fun c1 => ?_) (fun c1 => ?_)
  · have h := oc_t c1 h
    refine lv_aload_n hx hb dX0_forgetFirst_56 rfl (lv_at hl 0 rfl) ?_
    refine lv_bipush (v := (13 : Int32)) hx hb dX0_forgetFirst_57 (by decide) ?_
    refine va_put (D := D) (ci := 0) (v := .int (13 : Int32)) (ty := .int) (C := RX0) (T := TX0) (N := 4) hx hb hts inlX0 tyX0 tyX0_ok nmX0 hown hK hP hD hS 0 rfl rfl 3 (by decide) (hts _ kw_432) (fun _ h9 => h9) rfl (by decide +kernel) rfl rfl (Nat.le_of_ble_eq_true rfl) dX0_forgetFirst_59 (fun H locs hP hD hS => ?_)
    have hP : va_P D vwCl (WD8 cI cC cZ a_A a_A_kinds a_A_numbers a_A_befores (13 : Int32) A_kinds A_numbers A_befores) H := hP
    have hD : va_D A (WD8 cI cC cZ a_A a_A_kinds a_A_numbers a_A_befores (13 : Int32) A_kinds A_numbers A_befores) := hD
    cases h
    exact kret_v C0 hP hD hS dX0_forgetFirst_62
  · have h := oc_f c1 h
    refine lv_aload_n hx hb dX0_forgetFirst_8 rfl (lv_at hl 0 rfl) ?_
    refine va_get (D := D) (ci := 0) (v := .ref a_A_kinds) (C := RX0) (T := TX0) (N := 4) hx hb hts inlX0 hown hK hP 0 rfl rfl 0 (by decide) (hts _ kw_64) (fun _ h9 => h9) rfl dX0_forgetFirst_9 ?_
    refine lv_iload_n hx hb dX0_forgetFirst_12 rfl (lv_at hl 1 rfl) ?_
    refine lv_iconst (v := (1 : Int32)) hx hb dX0_forgetFirst_13 (by decide) ?_
    refine lv_isub hx hb dX0_forgetFirst_14 ?_
    refine lv_aload_n hx hb dX0_forgetFirst_15 rfl (lv_at hl 0 rfl) ?_
    refine va_get (D := D) (ci := 0) (v := .ref a_A_kinds) (C := RX0) (T := TX0) (N := 4) hx hb hts inlX0 hown hK hP 0 rfl rfl 0 (by decide) (hts _ kw_64) (fun _ h9 => h9) rfl dX0_forgetFirst_16 ?_
    refine lv_iload_n hx hb dX0_forgetFirst_19 rfl (lv_at hl 1 rfl) ?_
    obtain ⟨hb2, h⟩ := oc_else h
    refine va_iald hx hb hK hP 1 0 rfl rfl hb2 dX0_forgetFirst_20 ?_
    obtain ⟨hb3, h⟩ := oc_else h
    refine va_iast hx hb hK hP hD hS 1 0 rfl rfl hb3 dX0_forgetFirst_21 (fun H locs hP hD hS => ?_)
    have hP : va_P D vwCl (WD8 cI cC cZ a_A a_A_kinds a_A_numbers a_A_befores A_size (upd A_kinds (Int32.toNatClampNeg (p1 - (1 : Int32))) (A_kinds (Int32.toNatClampNeg p1))) A_numbers A_befores) H := hP
    have hD : va_D A (WD8 cI cC cZ a_A a_A_kinds a_A_numbers a_A_befores A_size (upd A_kinds (Int32.toNatClampNeg (p1 - (1 : Int32))) (A_kinds (Int32.toNatClampNeg p1))) A_numbers A_befores) := hD
    refine lv_aload_n hx hb dX0_forgetFirst_22 rfl (lv_at hl 0 rfl) ?_
    refine va_get (D := D) (ci := 0) (v := .ref a_A_numbers) (C := RX0) (T := TX0) (N := 4) hx hb hts inlX0 hown hK hP 0 rfl rfl 1 (by decide) (hts _ kw_65) (fun _ h9 => h9) rfl dX0_forgetFirst_23 ?_
    refine lv_iload_n hx hb dX0_forgetFirst_26 rfl (lv_at hl 1 rfl) ?_
    refine lv_iconst (v := (1 : Int32)) hx hb dX0_forgetFirst_27 (by decide) ?_
    refine lv_isub hx hb dX0_forgetFirst_28 ?_
    refine lv_aload_n hx hb dX0_forgetFirst_29 rfl (lv_at hl 0 rfl) ?_
    refine va_get (D := D) (ci := 0) (v := .ref a_A_numbers) (C := RX0) (T := TX0) (N := 4) hx hb hts inlX0 hown hK hP 0 rfl rfl 1 (by decide) (hts _ kw_65) (fun _ h9 => h9) rfl dX0_forgetFirst_30 ?_
    refine lv_iload_n hx hb dX0_forgetFirst_33 rfl (lv_at hl 1 rfl) ?_
    obtain ⟨hb4, h⟩ := oc_else h
    refine va_iald hx hb hK hP 2 0 rfl rfl hb4 dX0_forgetFirst_34 ?_
    obtain ⟨hb5, h⟩ := oc_else h
    refine va_iast hx hb hK hP hD hS 2 0 rfl rfl hb5 dX0_forgetFirst_35 (fun H locs hP hD hS => ?_)
    have hP : va_P D vwCl (WD8 cI cC cZ a_A a_A_kinds a_A_numbers a_A_befores A_size (upd A_kinds (Int32.toNatClampNeg (p1 - (1 : Int32))) (A_kinds (Int32.toNatClampNeg p1))) (upd A_numbers (Int32.toNatClampNeg (p1 - (1 : Int32))) (A_numbers (Int32.toNatClampNeg p1))) A_befores) H := hP
    have hD : va_D A (WD8 cI cC cZ a_A a_A_kinds a_A_numbers a_A_befores A_size (upd A_kinds (Int32.toNatClampNeg (p1 - (1 : Int32))) (A_kinds (Int32.toNatClampNeg p1))) (upd A_numbers (Int32.toNatClampNeg (p1 - (1 : Int32))) (A_numbers (Int32.toNatClampNeg p1))) A_befores) := hD
    refine lv_aload_n hx hb dX0_forgetFirst_36 rfl (lv_at hl 0 rfl) ?_
    refine va_get (D := D) (ci := 0) (v := .ref a_A_befores) (C := RX0) (T := TX0) (N := 4) hx hb hts inlX0 hown hK hP 0 rfl rfl 2 (by decide) (hts _ kw_66) (fun _ h9 => h9) rfl dX0_forgetFirst_37 ?_
    refine lv_iload_n hx hb dX0_forgetFirst_40 rfl (lv_at hl 1 rfl) ?_
    refine lv_iconst (v := (1 : Int32)) hx hb dX0_forgetFirst_41 (by decide) ?_
    refine lv_isub hx hb dX0_forgetFirst_42 ?_
    refine lv_aload_n hx hb dX0_forgetFirst_43 rfl (lv_at hl 0 rfl) ?_
    refine va_get (D := D) (ci := 0) (v := .ref a_A_befores) (C := RX0) (T := TX0) (N := 4) hx hb hts inlX0 hown hK hP 0 rfl rfl 2 (by decide) (hts _ kw_66) (fun _ h9 => h9) rfl dX0_forgetFirst_44 ?_
    refine lv_iload_n hx hb dX0_forgetFirst_47 rfl (lv_at hl 1 rfl) ?_
    obtain ⟨hb6, h⟩ := oc_else h
    refine va_iald hx hb hK hP 3 0 rfl rfl hb6 dX0_forgetFirst_48 ?_
    obtain ⟨hb7, h⟩ := oc_else h
    refine va_iast hx hb hK hP hD hS 3 0 rfl rfl hb7 dX0_forgetFirst_49 (fun H locs hP hD hS => ?_)
    have hP : va_P D vwCl (WD8 cI cC cZ a_A a_A_kinds a_A_numbers a_A_befores A_size (upd A_kinds (Int32.toNatClampNeg (p1 - (1 : Int32))) (A_kinds (Int32.toNatClampNeg p1))) (upd A_numbers (Int32.toNatClampNeg (p1 - (1 : Int32))) (A_numbers (Int32.toNatClampNeg p1))) (upd A_befores (Int32.toNatClampNeg (p1 - (1 : Int32))) (A_befores (Int32.toNatClampNeg p1)))) H := hP
    have hD : va_D A (WD8 cI cC cZ a_A a_A_kinds a_A_numbers a_A_befores A_size (upd A_kinds (Int32.toNatClampNeg (p1 - (1 : Int32))) (A_kinds (Int32.toNatClampNeg p1))) (upd A_numbers (Int32.toNatClampNeg (p1 - (1 : Int32))) (A_numbers (Int32.toNatClampNeg p1))) (upd A_befores (Int32.toNatClampNeg (p1 - (1 : Int32))) (A_befores (Int32.toNatClampNeg p1)))) := hD
    obtain ⟨t8, e_t8⟩ : ∃ y : Int32, y = p1 + (1 : Int32) := ⟨_, rfl⟩
    have h := oc_nm e_t8 h
    refine lv_iinc (v := t8) (lv' := [(1, .int t8), (0, .ref a_A)]) hx hb dX0_forgetFirst_50 hl (k := 1) rfl (by rw [e_t8]; rfl) (by decide) rfl (fun ls hl => ?_)
    refine lv_goto (tgt := 2) hx hb dX0_forgetFirst_53 (by decide) ?_
    exact hk2 _ _ _ _ h _ _ hP hD hS _ (lv_sub hl [1, 0] rfl)
noncomputable def lp_X0_forgetFirst_2  (A_size : Int32) (n : Nat) : (Nat → Int32) → (Nat → Int32) → (Nat → Int32) → Int32 → Option (Int32 × (Nat → Int32) × (Nat → Int32) × (Nat → Int32)) := Nat.rec (motive := fun _ => (Nat → Int32) → (Nat → Int32) → (Nat → Int32) → Int32 → Option (Int32 × (Nat → Int32) × (Nat → Int32) × (Nat → Int32))) (fun _ _ _ _ => none) (fun _ ih => bk_X0_forgetFirst_2  ih A_size) n
set_option maxHeartbeats 4000000 in
set_option maxRecDepth 100000 in
theorem wl_X0_forgetFirst_2 {p : Program} {l : Launch} {e : Env} {s : State} {m : MethodId} {args : Array Value} {below : List Frame} {meth : Method} {c : Code} {D : va_G} {cI cC cZ : ClassId} {A : Nat → Prop} {a_A a_A_kinds a_A_numbers a_A_befores : Nat} {A_size : Int32}  {u_A_size : Int32} {u_A_kinds : Nat → Int32} {u_A_numbers : Nat → Int32} {u_A_befores : Nat → Int32} (C0 : kC p s m args meth c D (kTY cI cC cZ) cX0_forgetFirst none 2 RX0 A)  : ∀ (n : Nat) (A_kinds : Nat → Int32) (A_numbers : Nat → Int32) (A_befores : Nat → Int32) (p1 : Int32), lp_X0_forgetFirst_2  A_size n A_kinds A_numbers A_befores p1 = some (u_A_size, u_A_kinds, u_A_numbers, u_A_befores) → ∀ (H : Heap) (locs : List Loc), va_P D vwCl (WD8 cI cC cZ a_A a_A_kinds a_A_numbers a_A_befores A_size A_kinds A_numbers A_befores) H → va_D A (WD8 cI cC cZ a_A a_A_kinds a_A_numbers a_A_befores A_size A_kinds A_numbers A_befores) → va_S A s.heap H locs → ∀ ls : Array Slot, lv_has ls 2 [(0, .ref a_A), (1, .int p1)] → W p l e rm_X0_forgetFirst s m args below meth c H locs 0 0 (MQ below (kQV D (kTY cI cC cZ) A (WD8 cI cC cZ a_A a_A_kinds a_A_numbers a_A_befores u_A_size u_A_kinds u_A_numbers u_A_befores)) args s 0 0 A) (F0 m 2 ls []) := by
  intro n
  induction n with
  | zero => intro A_kinds A_numbers A_befores p1 h; cases (show (none : Option (Int32 × (Nat → Int32) × (Nat → Int32) × (Nat → Int32))) = some _ from h)
  | succ n ih =>
    intro A_kinds A_numbers A_befores p1 h H locs hP hD hS ls hl
    exact wk_X0_forgetFirst_2 C0  (fun A_kinds A_numbers A_befores p1 h H locs hP hD hS ls hl => ih A_kinds A_numbers A_befores p1 h H locs hP hD hS ls hl) (show bk_X0_forgetFirst_2  (lp_X0_forgetFirst_2  A_size n) A_size A_kinds A_numbers A_befores p1 = some _ from h) hP hD hS hl
noncomputable def f_X0_forgetFirst (A_size : Int32) (A_kinds : Nat → Int32) (A_numbers : Nat → Int32) (A_befores : Nat → Int32)  : Option (Int32 × (Nat → Int32) × (Nat → Int32) × (Nat → Int32)) := lp_X0_forgetFirst_2  A_size 1000 A_kinds A_numbers A_befores (1 : Int32)
set_option maxHeartbeats 4000000 in
set_option maxRecDepth 100000 in
theorem c_X0_forgetFirst (l : Launch) (D : va_G) (cI cC cZ : ClassId) (a_A a_A_kinds a_A_numbers a_A_befores : Nat) (sz : Nat) (A_size : Int32) (A_kinds : Nat → Int32) (A_numbers : Nat → Int32) (A_befores : Nat → Int32) (u_A_size : Int32) (u_A_kinds : Nat → Int32) (u_A_numbers : Nat → Int32) (u_A_befores : Nat → Int32) (hf : f_X0_forgetFirst A_size A_kinds A_numbers A_befores = some (u_A_size, u_A_kinds, u_A_numbers, u_A_befores)) : kMet l yX0_forgetFirst cX0_forgetFirst 2 none rm_X0_forgetFirst D (kTY cI cC cZ) [.ref a_A] (WD8 cI cC cZ a_A a_A_kinds a_A_numbers a_A_befores A_size A_kinds A_numbers A_befores) sz (kQV D (kTY cI cC cZ) (va_A (WD8 cI cC cZ a_A a_A_kinds a_A_numbers a_A_befores A_size A_kinds A_numbers A_befores) sz) (WD8 cI cC cZ a_A a_A_kinds a_A_numbers a_A_befores u_A_size u_A_kinds u_A_numbers u_A_befores)) := by
  refine kEnter (lv := [(0, .ref a_A)]) (own := RX0) (by decide) rfl (Nat.le_of_ble_eq_true rfl) rfl ?_
  intro p e s m below meth c hsz C0 hP hD hS ls hl
  generalize (va_A (WD8 cI cC cZ a_A a_A_kinds a_A_numbers a_A_befores A_size A_kinds A_numbers A_befores) sz) = A at C0 hD hS ⊢
  clear hsz hS
  obtain ⟨H, hHs⟩ : ∃ H : Heap, H = s.heap := ⟨_, rfl⟩
  have hS : va_S A s.heap H [] := by rw [hHs]; exact va_S.rf
  rw [← hHs] at hP ⊢
  obtain ⟨hx, hb, hr, hml, hown, hts, hK, hN, hA, hlocks, hF⟩ := id C0
  have h := hf
  unfold f_X0_forgetFirst at h
  refine lv_iconst (v := (1 : Int32)) hx hb dX0_forgetFirst_0 (by decide) ?_
  refine lv_istore_n (lv' := [(1, .int (1 : Int32)), (0, .ref a_A)]) hx hb dX0_forgetFirst_1 rfl hl (by decide) rfl (fun ls hl => ?_)
  exact wl_X0_forgetFirst_2 C0  _ _ _ _ _ h _ _ hP hD hS _ (lv_sub hl [1, 0] rfl)
abbrev rm_X0_add : Room := { frames := 1, cells := 0, slots := 0, locals := 21 }
noncomputable def bk_X0_add_13  (A_size : Int32) (A_kinds : Nat → Int32) (A_numbers : Nat → Int32) (A_befores : Nat → Int32) (p1 : Int32) (p2 : Int32) (p3 : Int32) : Option (Int32 × (Nat → Int32) × (Nat → Int32) × (Nat → Int32)) := if A_size < 0 then (some (A_size, A_kinds, A_numbers, A_befores)) else (if A_size < (14 : Int32) then (if (A_size < 0 ∨ 14 ≤ Int32.toNatClampNeg A_size) then none else (if (A_size < 0 ∨ 14 ≤ Int32.toNatClampNeg A_size) then none else (if (A_size < 0 ∨ 14 ≤ Int32.toNatClampNeg A_size) then none else (nm_ (A_size + (1 : Int32)) (fun t6 => some (t6, (upd A_kinds (Int32.toNatClampNeg A_size) p1), (upd A_numbers (Int32.toNatClampNeg A_size) p2), (upd A_befores (Int32.toNatClampNeg A_size) p3))))))) else (some (A_size, A_kinds, A_numbers, A_befores)))
set_option maxHeartbeats 4000000 in
set_option maxRecDepth 100000 in
theorem wk_X0_add_13 {p : Program} {l : Launch} {e : Env} {s : State} {m : MethodId} {args : Array Value} {below : List Frame} {meth : Method} {c : Code} {D : va_G} {cI cC cZ : ClassId} {A : Nat → Prop} {a_A a_A_kinds a_A_numbers a_A_befores : Nat} {A_size : Int32} {A_kinds : Nat → Int32} {A_numbers : Nat → Int32} {A_befores : Nat → Int32} {p1 : Int32} {p2 : Int32} {p3 : Int32}  {u_A_size : Int32} {u_A_kinds : Nat → Int32} {u_A_numbers : Nat → Int32} {u_A_befores : Nat → Int32} (C0 : kC p s m args meth c D (kTY cI cC cZ) cX0_add none 4 RX0 A)  (h : bk_X0_add_13  A_size A_kinds A_numbers A_befores p1 p2 p3 = some (u_A_size, u_A_kinds, u_A_numbers, u_A_befores)) {H : Heap} {locs : List Loc} (hP : va_P D vwCl (WD8 cI cC cZ a_A a_A_kinds a_A_numbers a_A_befores A_size A_kinds A_numbers A_befores) H) (hD : va_D A (WD8 cI cC cZ a_A a_A_kinds a_A_numbers a_A_befores A_size A_kinds A_numbers A_befores)) (hS : va_S A s.heap H locs) {ls : Array Slot} (hl : lv_has ls 4 [(0, .ref a_A), (1, .int p1), (2, .int p2), (3, .int p3)]) : W p l e rm_X0_add s m args below meth c H locs 0 0 (MQ below (kQV D (kTY cI cC cZ) A (WD8 cI cC cZ a_A a_A_kinds a_A_numbers a_A_befores u_A_size u_A_kinds u_A_numbers u_A_befores)) args s 0 0 A) (F0 m 13 ls []) := by
  obtain ⟨hx, hb, hr, hml, hown, hts, hK, hN, hA, hlocks, hF⟩ := id C0
  unfold bk_X0_add_13 at h
  refine lv_aload_n hx hb dX0_add_13 rfl (lv_at hl 0 rfl) ?_
  refine va_get (D := D) (ci := 0) (v := .int A_size) (C := RX0) (T := TX0) (N := 4) hx hb hts inlX0 hown hK hP 0 rfl rfl 3 (by decide) (hts _ kw_432) (fun _ h9 => h9) rfl dX0_add_14 ?_
  refine lv_if_lt (tgt := 29) hx hb dX0_add_17 (by decide) (fun c1 => ?_) (fun c1 => ?_)
  · have h := oc_t c1 h
    cases h
    exact kret_v C0 hP hD hS dX0_add_29
  · have h := oc_f c1 h
    refine lv_aload_n hx hb dX0_add_20 rfl (lv_at hl 0 rfl) ?_
    refine va_get (D := D) (ci := 0) (v := .int A_size) (C := RX0) (T := TX0) (N := 4) hx hb hts inlX0 hown hK hP 0 rfl rfl 3 (by decide) (hts _ kw_432) (fun _ h9 => h9) rfl dX0_add_21 ?_
    refine lv_bipush (v := (14 : Int32)) hx hb dX0_add_24 (by decide) ?_
    refine lv_icmp_lt (tgt := 30) hx hb dX0_add_26 (by decide) (fun c2 => ?_) (fun c2 => ?_)
    · have h := oc_t c2 h
      refine lv_aload_n hx hb dX0_add_30 rfl (lv_at hl 0 rfl) ?_
      refine va_get (D := D) (ci := 0) (v := .ref a_A_kinds) (C := RX0) (T := TX0) (N := 4) hx hb hts inlX0 hown hK hP 0 rfl rfl 0 (by decide) (hts _ kw_64) (fun _ h9 => h9) rfl dX0_add_31 ?_
      refine lv_aload_n hx hb dX0_add_34 rfl (lv_at hl 0 rfl) ?_
      refine va_get (D := D) (ci := 0) (v := .int A_size) (C := RX0) (T := TX0) (N := 4) hx hb hts inlX0 hown hK hP 0 rfl rfl 3 (by decide) (hts _ kw_432) (fun _ h9 => h9) rfl dX0_add_35 ?_
      refine lv_iload_n hx hb dX0_add_38 rfl (lv_at hl 1 rfl) ?_
      obtain ⟨hb3, h⟩ := oc_else h
      refine va_iast hx hb hK hP hD hS 1 0 rfl rfl hb3 dX0_add_39 (fun H locs hP hD hS => ?_)
      have hP : va_P D vwCl (WD8 cI cC cZ a_A a_A_kinds a_A_numbers a_A_befores A_size (upd A_kinds (Int32.toNatClampNeg A_size) p1) A_numbers A_befores) H := hP
      have hD : va_D A (WD8 cI cC cZ a_A a_A_kinds a_A_numbers a_A_befores A_size (upd A_kinds (Int32.toNatClampNeg A_size) p1) A_numbers A_befores) := hD
      refine lv_aload_n hx hb dX0_add_40 rfl (lv_at hl 0 rfl) ?_
      refine va_get (D := D) (ci := 0) (v := .ref a_A_numbers) (C := RX0) (T := TX0) (N := 4) hx hb hts inlX0 hown hK hP 0 rfl rfl 1 (by decide) (hts _ kw_65) (fun _ h9 => h9) rfl dX0_add_41 ?_
      refine lv_aload_n hx hb dX0_add_44 rfl (lv_at hl 0 rfl) ?_
      refine va_get (D := D) (ci := 0) (v := .int A_size) (C := RX0) (T := TX0) (N := 4) hx hb hts inlX0 hown hK hP 0 rfl rfl 3 (by decide) (hts _ kw_432) (fun _ h9 => h9) rfl dX0_add_45 ?_
      refine lv_iload_n hx hb dX0_add_48 rfl (lv_at hl 2 rfl) ?_
      obtain ⟨hb4, h⟩ := oc_else h
      refine va_iast hx hb hK hP hD hS 2 0 rfl rfl hb4 dX0_add_49 (fun H locs hP hD hS => ?_)
      have hP : va_P D vwCl (WD8 cI cC cZ a_A a_A_kinds a_A_numbers a_A_befores A_size (upd A_kinds (Int32.toNatClampNeg A_size) p1) (upd A_numbers (Int32.toNatClampNeg A_size) p2) A_befores) H := hP
      have hD : va_D A (WD8 cI cC cZ a_A a_A_kinds a_A_numbers a_A_befores A_size (upd A_kinds (Int32.toNatClampNeg A_size) p1) (upd A_numbers (Int32.toNatClampNeg A_size) p2) A_befores) := hD
      refine lv_aload_n hx hb dX0_add_50 rfl (lv_at hl 0 rfl) ?_
      refine va_get (D := D) (ci := 0) (v := .ref a_A_befores) (C := RX0) (T := TX0) (N := 4) hx hb hts inlX0 hown hK hP 0 rfl rfl 2 (by decide) (hts _ kw_66) (fun _ h9 => h9) rfl dX0_add_51 ?_
      refine lv_aload_n hx hb dX0_add_54 rfl (lv_at hl 0 rfl) ?_
      refine va_get (D := D) (ci := 0) (v := .int A_size) (C := RX0) (T := TX0) (N := 4) hx hb hts inlX0 hown hK hP 0 rfl rfl 3 (by decide) (hts _ kw_432) (fun _ h9 => h9) rfl dX0_add_55 ?_
      refine lv_iload_n hx hb dX0_add_58 rfl (lv_at hl 3 rfl) ?_
      obtain ⟨hb5, h⟩ := oc_else h
      refine va_iast hx hb hK hP hD hS 3 0 rfl rfl hb5 dX0_add_59 (fun H locs hP hD hS => ?_)
      have hP : va_P D vwCl (WD8 cI cC cZ a_A a_A_kinds a_A_numbers a_A_befores A_size (upd A_kinds (Int32.toNatClampNeg A_size) p1) (upd A_numbers (Int32.toNatClampNeg A_size) p2) (upd A_befores (Int32.toNatClampNeg A_size) p3)) H := hP
      have hD : va_D A (WD8 cI cC cZ a_A a_A_kinds a_A_numbers a_A_befores A_size (upd A_kinds (Int32.toNatClampNeg A_size) p1) (upd A_numbers (Int32.toNatClampNeg A_size) p2) (upd A_befores (Int32.toNatClampNeg A_size) p3)) := hD
      refine lv_aload_n hx hb dX0_add_60 rfl (lv_at hl 0 rfl) ?_
      refine lv_dup hx hb dX0_add_61 rfl ?_
      refine va_get (D := D) (ci := 0) (v := .int A_size) (C := RX0) (T := TX0) (N := 4) hx hb hts inlX0 hown hK hP 0 rfl rfl 3 (by decide) (hts _ kw_432) (fun _ h9 => h9) rfl dX0_add_62 ?_
      refine lv_iconst (v := (1 : Int32)) hx hb dX0_add_65 (by decide) ?_
      refine lv_iadd hx hb dX0_add_66 ?_
      refine lv_topi (fun t6 e_t6 => ?_)
      have h := oc_nm e_t6 h
      refine va_put (D := D) (ci := 0) (v := .int t6) (ty := .int) (C := RX0) (T := TX0) (N := 4) hx hb hts inlX0 tyX0 tyX0_ok nmX0 hown hK hP hD hS 0 rfl rfl 3 (by decide) (hts _ kw_432) (fun _ h9 => h9) rfl (by decide +kernel) rfl rfl (Nat.le_of_ble_eq_true rfl) dX0_add_67 (fun H locs hP hD hS => ?_)
      have hP : va_P D vwCl (WD8 cI cC cZ a_A a_A_kinds a_A_numbers a_A_befores t6 (upd A_kinds (Int32.toNatClampNeg A_size) p1) (upd A_numbers (Int32.toNatClampNeg A_size) p2) (upd A_befores (Int32.toNatClampNeg A_size) p3)) H := hP
      have hD : va_D A (WD8 cI cC cZ a_A a_A_kinds a_A_numbers a_A_befores t6 (upd A_kinds (Int32.toNatClampNeg A_size) p1) (upd A_numbers (Int32.toNatClampNeg A_size) p2) (upd A_befores (Int32.toNatClampNeg A_size) p3)) := hD
      cases h
      exact kret_v C0 hP hD hS dX0_add_70
    · have h := oc_f c2 h
      cases h
      exact kret_v C0 hP hD hS dX0_add_29
noncomputable def f_X0_add (A_size : Int32) (A_kinds : Nat → Int32) (A_numbers : Nat → Int32) (A_befores : Nat → Int32) (p1 : Int32) (p2 : Int32) (p3 : Int32) : Option (Int32 × (Nat → Int32) × (Nat → Int32) × (Nat → Int32)) := if A_size < (14 : Int32) then (bk_X0_add_13  A_size A_kinds A_numbers A_befores p1 p2 p3) else ((f_X0_forgetFirst A_size A_kinds A_numbers A_befores).bind (fun z => un4 z (fun u3 u4 u5 u6 => bk_X0_add_13  u3 u4 u5 u6 p1 p2 p3)))
set_option maxHeartbeats 4000000 in
set_option maxRecDepth 100000 in
theorem c_X0_add (l : Launch) (D : va_G) (cI cC cZ : ClassId) (a_A a_A_kinds a_A_numbers a_A_befores : Nat) (sz : Nat) (A_size : Int32) (A_kinds : Nat → Int32) (A_numbers : Nat → Int32) (A_befores : Nat → Int32) (p1 : Int32) (p2 : Int32) (p3 : Int32) (u_A_size : Int32) (u_A_kinds : Nat → Int32) (u_A_numbers : Nat → Int32) (u_A_befores : Nat → Int32) (hf : f_X0_add A_size A_kinds A_numbers A_befores p1 p2 p3 = some (u_A_size, u_A_kinds, u_A_numbers, u_A_befores)) : kMet l yX0_add cX0_add 4 none rm_X0_add D (kTY cI cC cZ) [.ref a_A, .int p1, .int p2, .int p3] (WD8 cI cC cZ a_A a_A_kinds a_A_numbers a_A_befores A_size A_kinds A_numbers A_befores) sz (kQV D (kTY cI cC cZ) (va_A (WD8 cI cC cZ a_A a_A_kinds a_A_numbers a_A_befores A_size A_kinds A_numbers A_befores) sz) (WD8 cI cC cZ a_A a_A_kinds a_A_numbers a_A_befores u_A_size u_A_kinds u_A_numbers u_A_befores)) := by
  refine kEnter (lv := [(0, .ref a_A), (1, .int p1), (2, .int p2), (3, .int p3)]) (own := RX0) (by decide) rfl (Nat.le_of_ble_eq_true rfl) rfl ?_
  intro p e s m below meth c hsz C0 hP hD hS ls hl
  generalize (va_A (WD8 cI cC cZ a_A a_A_kinds a_A_numbers a_A_befores A_size A_kinds A_numbers A_befores) sz) = A at C0 hD hS ⊢
  clear hsz hS
  obtain ⟨H, hHs⟩ : ∃ H : Heap, H = s.heap := ⟨_, rfl⟩
  have hS : va_S A s.heap H [] := by rw [hHs]; exact va_S.rf
  rw [← hHs] at hP ⊢
  obtain ⟨hx, hb, hr, hml, hown, hts, hK, hN, hA, hlocks, hF⟩ := id C0
  have h := hf
  unfold f_X0_add at h
  refine lv_aload_n hx hb dX0_add_0 rfl (lv_at hl 0 rfl) ?_
  refine va_get (D := D) (ci := 0) (v := .int A_size) (C := RX0) (T := TX0) (N := 4) hx hb hts inlX0 hown hK hP 0 rfl rfl 3 (by decide) (hts _ kw_432) (fun _ h9 => h9) rfl dX0_add_1 ?_
  refine lv_bipush (v := (14 : Int32)) hx hb dX0_add_4 (by decide) ?_
  refine lv_icmp_lt (tgt := 13) hx hb dX0_add_6 (by decide) (fun c1 => ?_) (fun c1 => ?_)
  · have h := oc_t c1 h
    exact wk_X0_add_13 C0  h hP hD hS (lv_sub hl [0, 1, 2, 3] rfl)
  · have h := oc_f c1 h
    refine lv_aload_n hx hb dX0_add_9 rfl (lv_at hl 0 rfl) ?_
    obtain ⟨u3, u4, u5, u6, hc2, h⟩ := oc_b4 h
    refine kgo_v (wc := (WD8 cI cC cZ a_A a_A_kinds a_A_numbers a_A_befores A_size A_kinds A_numbers A_befores)) (wc' := (WD8 cI cC cZ a_A a_A_kinds a_A_numbers a_A_befores u3 u4 u5 u6)) (ws' := (WD8 cI cC cZ a_A a_A_kinds a_A_numbers a_A_befores u3 u4 u5 u6)) C0 hP hD hS [0, 1, 2, 3] [] [0, 1, 2, 3] [] rfl rfl (by decide) (by decide) rfl (by decide) (kV (n := 0) (As := []) (rest := []) (wc := (WD8 cI cC cZ a_A a_A_kinds a_A_numbers a_A_befores A_size A_kinds A_numbers A_befores)) (C := RX0) C0 hP hD hS [0, 1, 2, 3] rfl (by decide) (c_X0_forgetFirst l D cI cC cZ a_A a_A_kinds a_A_numbers a_A_befores H.size A_size A_kinds A_numbers A_befores  u3 u4 u5 u6 hc2) kw_436 kw_433 kw_434 kw_435 kw_30 (by decide +kernel) (by decide) rfl rfl rfl hl.1 rfl (Nat.le_of_ble_eq_true rfl) ⟨Nat.zero_le _, Nat.zero_le _⟩ dX0_add_10) (fun H locs hP hD hS => ?_)
    exact wk_X0_add_13 C0  h hP hD hS (lv_sub hl [0, 1, 2, 3] rfl)
abbrev WD9 (cI cC cZ : ClassId) (a_A a_A_kinds a_A_numbers a_A_befores a_L a_L_wants a_F a_F_table a_F_spots a_F_points a_F_walls a_F_across a_F_bareLight : Nat) (A_size : Int32) (A_kinds : Nat → Int32) (A_numbers : Nat → Int32) (A_befores : Nat → Int32) (L_hung : Int32) (L_dead : Int32) (L_standing : Int32) (L_wants : Nat → Int32) (F_glow : Int32) (F_spotCount : Int32) (F_pointCount : Int32) (F_wallCount : Int32) (F_table : Nat → Int32) (F_spots : Nat → Int32) (F_points : Nat → Int32) (F_walls : Nat → Int32) (F_across : Nat → Int32) (F_bareLight : Nat → Int32) : va_W := [(a_A, .inr (0, [.ref a_A_kinds, .ref a_A_numbers, .ref a_A_befores, .int A_size])), (a_A_kinds, .inl (cI, 14, .inl A_kinds)), (a_A_numbers, .inl (cI, 14, .inl A_numbers)), (a_A_befores, .inl (cI, 14, .inl A_befores)), (a_L, .inr (2, [.ref a_F, .ref a_L_wants, .int L_hung, .int L_dead, .int L_standing])), (a_L_wants, .inl (cI, 6, .inl L_wants)), (a_F, .inr (1, [.ref a_F_table, .ref a_F_spots, .ref a_F_points, .ref a_F_walls, .ref a_F_across, .ref a_F_bareLight, .int F_glow, .int F_spotCount, .int F_pointCount, .int F_wallCount])), (a_F_table, .inl (cI, 10, .inl F_table)), (a_F_spots, .inl (cI, 32, .inl F_spots)), (a_F_points, .inl (cI, 24, .inl F_points)), (a_F_walls, .inl (cI, 20, .inl F_walls)), (a_F_across, .inl (cI, 48, .inl F_across)), (a_F_bareLight, .inl (cI, 48, .inl F_bareLight))]
abbrev rm_X0_takeBack : Room := { frames := 1, cells := 0, slots := 0, locals := 23 }
noncomputable def f_X0_takeBack (A_size : Int32) (A_kinds : Nat → Int32) (A_numbers : Nat → Int32) (A_befores : Nat → Int32) (L_hung : Int32) (L_dead : Int32) (L_standing : Int32) (L_wants : Nat → Int32)  : Option (Int32 × Int32 × Int32 × Int32 × Int32 × (Nat → Int32)) := if A_size < (1 : Int32) then (some ((0 : Int32), A_size, L_hung, L_dead, L_standing, L_wants)) else (if A_size ≤ (14 : Int32) then (nm_ (A_size - (1 : Int32)) (fun t3 => if (t3 < 0 ∨ 14 ≤ Int32.toNatClampNeg t3) then none else (if (A_kinds (Int32.toNatClampNeg t3)) = (3 : Int32) then (if (t3 < 0 ∨ 14 ≤ Int32.toNatClampNeg t3) then none else ((f_X2_turnWall L_standing (A_numbers (Int32.toNatClampNeg t3))).bind (fun u19 => some ((1 : Int32), t3, L_hung, L_dead, u19, L_wants)))) else (if (t3 < 0 ∨ 14 ≤ Int32.toNatClampNeg t3) then none else (if (A_kinds (Int32.toNatClampNeg t3)) = (6 : Int32) then (if (t3 < 0 ∨ 14 ≤ Int32.toNatClampNeg t3) then none else (if (t3 < 0 ∨ 14 ≤ Int32.toNatClampNeg t3) then none else ((f_X2_tellWant L_wants (A_numbers (Int32.toNatClampNeg t3)) (A_befores (Int32.toNatClampNeg t3))).bind (fun u16 => some ((1 : Int32), t3, L_hung, L_dead, L_standing, u16))))) else (if (t3 < 0 ∨ 14 ≤ Int32.toNatClampNeg t3) then none else (if (t3 < 0 ∨ 14 ≤ Int32.toNatClampNeg t3) then none else ((f_X2_putLamp L_hung L_dead (A_numbers (Int32.toNatClampNeg t3)) (A_befores (Int32.toNatClampNeg t3))).bind (fun z => un2 z (fun u11 u12 => some ((1 : Int32), t3, u11, u12, L_standing, L_wants))))))))))) else (some ((0 : Int32), A_size, L_hung, L_dead, L_standing, L_wants)))
set_option maxHeartbeats 4000000 in
set_option maxRecDepth 100000 in
theorem c_X0_takeBack (l : Launch) (D : va_G) (cI cC cZ : ClassId) (a_A a_A_kinds a_A_numbers a_A_befores a_L a_L_wants a_F a_F_table a_F_spots a_F_points a_F_walls a_F_across a_F_bareLight : Nat) (sz : Nat) (A_size : Int32) (A_kinds : Nat → Int32) (A_numbers : Nat → Int32) (A_befores : Nat → Int32) (L_hung : Int32) (L_dead : Int32) (L_standing : Int32) (L_wants : Nat → Int32) (F_glow : Int32) (F_spotCount : Int32) (F_pointCount : Int32) (F_wallCount : Int32) (F_table : Nat → Int32) (F_spots : Nat → Int32) (F_points : Nat → Int32) (F_walls : Nat → Int32) (F_across : Nat → Int32) (F_bareLight : Nat → Int32) (rr : Int32) (u_A_size : Int32) (u_L_hung : Int32) (u_L_dead : Int32) (u_L_standing : Int32) (u_L_wants : Nat → Int32) (hf : f_X0_takeBack A_size A_kinds A_numbers A_befores L_hung L_dead L_standing L_wants = some (rr, u_A_size, u_L_hung, u_L_dead, u_L_standing, u_L_wants)) : kMet l yX0_takeBack cX0_takeBack 2 (some .boolean) rm_X0_takeBack D (kTY cI cC cZ) [.ref a_A, .ref a_L] (WD9 cI cC cZ a_A a_A_kinds a_A_numbers a_A_befores a_L a_L_wants a_F a_F_table a_F_spots a_F_points a_F_walls a_F_across a_F_bareLight A_size A_kinds A_numbers A_befores L_hung L_dead L_standing L_wants F_glow F_spotCount F_pointCount F_wallCount F_table F_spots F_points F_walls F_across F_bareLight) sz (kQI D (kTY cI cC cZ) (va_A (WD9 cI cC cZ a_A a_A_kinds a_A_numbers a_A_befores a_L a_L_wants a_F a_F_table a_F_spots a_F_points a_F_walls a_F_across a_F_bareLight A_size A_kinds A_numbers A_befores L_hung L_dead L_standing L_wants F_glow F_spotCount F_pointCount F_wallCount F_table F_spots F_points F_walls F_across F_bareLight) sz) rr (WD9 cI cC cZ a_A a_A_kinds a_A_numbers a_A_befores a_L a_L_wants a_F a_F_table a_F_spots a_F_points a_F_walls a_F_across a_F_bareLight u_A_size A_kinds A_numbers A_befores u_L_hung u_L_dead u_L_standing u_L_wants F_glow F_spotCount F_pointCount F_wallCount F_table F_spots F_points F_walls F_across F_bareLight)) := by
  refine kEnter (lv := [(0, .ref a_A), (1, .ref a_L)]) (own := RX0) (by decide) rfl (Nat.le_of_ble_eq_true rfl) rfl ?_
  intro p e s m below meth c hsz C0 hP hD hS ls hl
  generalize (va_A (WD9 cI cC cZ a_A a_A_kinds a_A_numbers a_A_befores a_L a_L_wants a_F a_F_table a_F_spots a_F_points a_F_walls a_F_across a_F_bareLight A_size A_kinds A_numbers A_befores L_hung L_dead L_standing L_wants F_glow F_spotCount F_pointCount F_wallCount F_table F_spots F_points F_walls F_across F_bareLight) sz) = A at C0 hD hS ⊢
  clear hsz hS
  obtain ⟨H, hHs⟩ : ∃ H : Heap, H = s.heap := ⟨_, rfl⟩
  have hS : va_S A s.heap H [] := by rw [hHs]; exact va_S.rf
  rw [← hHs] at hP ⊢
  obtain ⟨hx, hb, hr, hml, hown, hts, hK, hN, hA, hlocks, hF⟩ := id C0
  have h := hf
  unfold f_X0_takeBack at h
  refine lv_aload_n hx hb dX0_takeBack_0 rfl (lv_at hl 0 rfl) ?_
  refine va_get (D := D) (ci := 0) (v := .int A_size) (C := RX0) (T := TX0) (N := 4) hx hb hts inlX0 hown hK hP 0 rfl rfl 3 (by decide) (hts _ kw_432) (fun _ h9 => h9) rfl dX0_takeBack_1 ?_
  refine lv_iconst (v := (1 : Int32)) hx hb dX0_takeBack_4 (by decide) ?_
  refine lv_icmp_lt (tgt := 17) hx hb dX0_takeBack_5 (by decide) (fun c1 => ?_) (fun c1 => ?_)
  · have h := oc_t c1 h
    refine lv_iconst (v := (0 : Int32)) hx hb dX0_takeBack_17 (by decide) ?_
    cases h
    exact kret_i C0 hP hD hS (by decide) dX0_takeBack_18
  · have h := oc_f c1 h
    refine lv_aload_n hx hb dX0_takeBack_8 rfl (lv_at hl 0 rfl) ?_
    refine va_get (D := D) (ci := 0) (v := .int A_size) (C := RX0) (T := TX0) (N := 4) hx hb hts inlX0 hown hK hP 0 rfl rfl 3 (by decide) (hts _ kw_432) (fun _ h9 => h9) rfl dX0_takeBack_9 ?_
    refine lv_bipush (v := (14 : Int32)) hx hb dX0_takeBack_12 (by decide) ?_
    refine lv_icmp_le (tgt := 19) hx hb dX0_takeBack_14 (by decide) (fun c2 => ?_) (fun c2 => ?_)
    · have h := oc_t c2 h
      refine lv_aload_n hx hb dX0_takeBack_19 rfl (lv_at hl 0 rfl) ?_
      refine lv_dup hx hb dX0_takeBack_20 rfl ?_
      refine va_get (D := D) (ci := 0) (v := .int A_size) (C := RX0) (T := TX0) (N := 4) hx hb hts inlX0 hown hK hP 0 rfl rfl 3 (by decide) (hts _ kw_432) (fun _ h9 => h9) rfl dX0_takeBack_21 ?_
      refine lv_iconst (v := (1 : Int32)) hx hb dX0_takeBack_24 (by decide) ?_
      refine lv_isub hx hb dX0_takeBack_25 ?_
      refine lv_topi (fun t3 e_t3 => ?_)
      have h := oc_nm e_t3 h
      refine va_put (D := D) (ci := 0) (v := .int t3) (ty := .int) (C := RX0) (T := TX0) (N := 4) hx hb hts inlX0 tyX0 tyX0_ok nmX0 hown hK hP hD hS 0 rfl rfl 3 (by decide) (hts _ kw_432) (fun _ h9 => h9) rfl (by decide +kernel) rfl rfl (Nat.le_of_ble_eq_true rfl) dX0_takeBack_26 (fun H locs hP hD hS => ?_)
      have hP : va_P D vwCl (WD9 cI cC cZ a_A a_A_kinds a_A_numbers a_A_befores a_L a_L_wants a_F a_F_table a_F_spots a_F_points a_F_walls a_F_across a_F_bareLight t3 A_kinds A_numbers A_befores L_hung L_dead L_standing L_wants F_glow F_spotCount F_pointCount F_wallCount F_table F_spots F_points F_walls F_across F_bareLight) H := hP
      have hD : va_D A (WD9 cI cC cZ a_A a_A_kinds a_A_numbers a_A_befores a_L a_L_wants a_F a_F_table a_F_spots a_F_points a_F_walls a_F_across a_F_bareLight t3 A_kinds A_numbers A_befores L_hung L_dead L_standing L_wants F_glow F_spotCount F_pointCount F_wallCount F_table F_spots F_points F_walls F_across F_bareLight) := hD
      refine lv_aload_n hx hb dX0_takeBack_29 rfl (lv_at hl 0 rfl) ?_
      refine va_get (D := D) (ci := 0) (v := .ref a_A_kinds) (C := RX0) (T := TX0) (N := 4) hx hb hts inlX0 hown hK hP 0 rfl rfl 0 (by decide) (hts _ kw_64) (fun _ h9 => h9) rfl dX0_takeBack_30 ?_
      refine lv_aload_n hx hb dX0_takeBack_33 rfl (lv_at hl 0 rfl) ?_
      refine va_get (D := D) (ci := 0) (v := .int t3) (C := RX0) (T := TX0) (N := 4) hx hb hts inlX0 hown hK hP 0 rfl rfl 3 (by decide) (hts _ kw_432) (fun _ h9 => h9) rfl dX0_takeBack_34 ?_
      obtain ⟨hb4, h⟩ := oc_else h
      refine va_iald hx hb hK hP 1 0 rfl rfl hb4 dX0_takeBack_37 ?_
      refine lv_iconst (v := (3 : Int32)) hx hb dX0_takeBack_38 (by decide) ?_
      refine lv_icmp_ne (tgt := 58) hx hb dX0_takeBack_39 (by decide) (fun c5 => ?_) (fun c5 => ?_)
      · have h := oc_f c5 h
        refine lv_aload_n hx hb dX0_takeBack_58 rfl (lv_at hl 0 rfl) ?_
        refine va_get (D := D) (ci := 0) (v := .ref a_A_kinds) (C := RX0) (T := TX0) (N := 4) hx hb hts inlX0 hown hK hP 0 rfl rfl 0 (by decide) (hts _ kw_64) (fun _ h9 => h9) rfl dX0_takeBack_59 ?_
        refine lv_aload_n hx hb dX0_takeBack_62 rfl (lv_at hl 0 rfl) ?_
        refine va_get (D := D) (ci := 0) (v := .int t3) (C := RX0) (T := TX0) (N := 4) hx hb hts inlX0 hown hK hP 0 rfl rfl 3 (by decide) (hts _ kw_432) (fun _ h9 => h9) rfl dX0_takeBack_63 ?_
        obtain ⟨hb6, h⟩ := oc_else h
        refine va_iald hx hb hK hP 1 0 rfl rfl hb6 dX0_takeBack_66 ?_
        refine lv_bipush (v := (6 : Int32)) hx hb dX0_takeBack_67 (by decide) ?_
        refine lv_icmp_ne (tgt := 97) hx hb dX0_takeBack_69 (by decide) (fun c7 => ?_) (fun c7 => ?_)
        · have h := oc_f c7 h
          refine lv_aload_n hx hb dX0_takeBack_97 rfl (lv_at hl 1 rfl) ?_
          refine lv_aload_n hx hb dX0_takeBack_98 rfl (lv_at hl 0 rfl) ?_
          refine va_get (D := D) (ci := 0) (v := .ref a_A_numbers) (C := RX0) (T := TX0) (N := 4) hx hb hts inlX0 hown hK hP 0 rfl rfl 1 (by decide) (hts _ kw_65) (fun _ h9 => h9) rfl dX0_takeBack_99 ?_
          refine lv_aload_n hx hb dX0_takeBack_102 rfl (lv_at hl 0 rfl) ?_
          refine va_get (D := D) (ci := 0) (v := .int t3) (C := RX0) (T := TX0) (N := 4) hx hb hts inlX0 hown hK hP 0 rfl rfl 3 (by decide) (hts _ kw_432) (fun _ h9 => h9) rfl dX0_takeBack_103 ?_
          obtain ⟨hb8, h⟩ := oc_else h
          refine va_iald hx hb hK hP 2 0 rfl rfl hb8 dX0_takeBack_106 ?_
          refine lv_aload_n hx hb dX0_takeBack_107 rfl (lv_at hl 0 rfl) ?_
          refine va_get (D := D) (ci := 0) (v := .ref a_A_befores) (C := RX0) (T := TX0) (N := 4) hx hb hts inlX0 hown hK hP 0 rfl rfl 2 (by decide) (hts _ kw_66) (fun _ h9 => h9) rfl dX0_takeBack_108 ?_
          refine lv_aload_n hx hb dX0_takeBack_111 rfl (lv_at hl 0 rfl) ?_
          refine va_get (D := D) (ci := 0) (v := .int t3) (C := RX0) (T := TX0) (N := 4) hx hb hts inlX0 hown hK hP 0 rfl rfl 3 (by decide) (hts _ kw_432) (fun _ h9 => h9) rfl dX0_takeBack_112 ?_
          obtain ⟨hb9, h⟩ := oc_else h
          refine va_iald hx hb hK hP 3 0 rfl rfl hb9 dX0_takeBack_115 ?_
          obtain ⟨u11, u12, hc10, h⟩ := oc_b2 h
          refine kgo_v (wc := (WD6 cI cC cZ a_L a_L_wants a_F a_F_table a_F_spots a_F_points a_F_walls a_F_across a_F_bareLight L_hung L_dead L_standing L_wants F_glow F_spotCount F_pointCount F_wallCount F_table F_spots F_points F_walls F_across F_bareLight)) (wc' := (WD6 cI cC cZ a_L a_L_wants a_F a_F_table a_F_spots a_F_points a_F_walls a_F_across a_F_bareLight u11 u12 L_standing L_wants F_glow F_spotCount F_pointCount F_wallCount F_table F_spots F_points F_walls F_across F_bareLight)) (ws' := (WD9 cI cC cZ a_A a_A_kinds a_A_numbers a_A_befores a_L a_L_wants a_F a_F_table a_F_spots a_F_points a_F_walls a_F_across a_F_bareLight t3 A_kinds A_numbers A_befores u11 u12 L_standing L_wants F_glow F_spotCount F_pointCount F_wallCount F_table F_spots F_points F_walls F_across F_bareLight)) C0 hP hD hS [4, 5, 6, 7, 8, 9, 10, 11, 12] [0, 1, 2, 3] [0, 1, 2, 3, 4, 5, 6, 7, 8, 9, 10, 11, 12] [(a_A, .inr (0, [.ref a_A_kinds, .ref a_A_numbers, .ref a_A_befores, .int t3])), (a_A_kinds, .inl (cI, 14, .inl A_kinds)), (a_A_numbers, .inl (cI, 14, .inl A_numbers)), (a_A_befores, .inl (cI, 14, .inl A_befores))] rfl rfl (by decide) (by decide) rfl (by decide) (kVN (n := 2) (As := [.int (A_numbers (Int32.toNatClampNeg t3)), .int (A_befores (Int32.toNatClampNeg t3))]) (rest := []) (wc := (WD6 cI cC cZ a_L a_L_wants a_F a_F_table a_F_spots a_F_points a_F_walls a_F_across a_F_bareLight L_hung L_dead L_standing L_wants F_glow F_spotCount F_pointCount F_wallCount F_table F_spots F_points F_walls F_across F_bareLight)) (C := RX2) C0 hP hD hS [4, 5, 6, 7, 8, 9, 10, 11, 12] rfl (by decide) (c_X2_putLamp l D cI cC cZ a_L a_L_wants a_F a_F_table a_F_spots a_F_points a_F_walls a_F_across a_F_bareLight H.size L_hung L_dead L_standing L_wants F_glow F_spotCount F_pointCount F_wallCount F_table F_spots F_points F_walls F_across F_bareLight (A_numbers (Int32.toNatClampNeg t3)) (A_befores (Int32.toNatClampNeg t3)) u11 u12 hc10) kw_444 (ks_m39 hN) kw_442 kw_443 kw_23 (by decide +kernel) (by decide) rfl rfl rfl hl.1 rfl (Nat.le_of_ble_eq_true rfl) ⟨Nat.zero_le _, Nat.zero_le _⟩ dX0_takeBack_116) (fun H locs hP hD hS => ?_)
          refine lv_iconst (v := (1 : Int32)) hx hb dX0_takeBack_119 (by decide) ?_
          cases h
          exact kret_i C0 hP hD hS (by decide) dX0_takeBack_120
        · have h := oc_t c7 h
          refine lv_aload_n hx hb dX0_takeBack_72 rfl (lv_at hl 1 rfl) ?_
          refine lv_aload_n hx hb dX0_takeBack_73 rfl (lv_at hl 0 rfl) ?_
          refine va_get (D := D) (ci := 0) (v := .ref a_A_numbers) (C := RX0) (T := TX0) (N := 4) hx hb hts inlX0 hown hK hP 0 rfl rfl 1 (by decide) (hts _ kw_65) (fun _ h9 => h9) rfl dX0_takeBack_74 ?_
          refine lv_aload_n hx hb dX0_takeBack_77 rfl (lv_at hl 0 rfl) ?_
          refine va_get (D := D) (ci := 0) (v := .int t3) (C := RX0) (T := TX0) (N := 4) hx hb hts inlX0 hown hK hP 0 rfl rfl 3 (by decide) (hts _ kw_432) (fun _ h9 => h9) rfl dX0_takeBack_78 ?_
          obtain ⟨hb13, h⟩ := oc_else h
          refine va_iald hx hb hK hP 2 0 rfl rfl hb13 dX0_takeBack_81 ?_
          refine lv_aload_n hx hb dX0_takeBack_82 rfl (lv_at hl 0 rfl) ?_
          refine va_get (D := D) (ci := 0) (v := .ref a_A_befores) (C := RX0) (T := TX0) (N := 4) hx hb hts inlX0 hown hK hP 0 rfl rfl 2 (by decide) (hts _ kw_66) (fun _ h9 => h9) rfl dX0_takeBack_83 ?_
          refine lv_aload_n hx hb dX0_takeBack_86 rfl (lv_at hl 0 rfl) ?_
          refine va_get (D := D) (ci := 0) (v := .int t3) (C := RX0) (T := TX0) (N := 4) hx hb hts inlX0 hown hK hP 0 rfl rfl 3 (by decide) (hts _ kw_432) (fun _ h9 => h9) rfl dX0_takeBack_87 ?_
          obtain ⟨hb14, h⟩ := oc_else h
          refine va_iald hx hb hK hP 3 0 rfl rfl hb14 dX0_takeBack_90 ?_
          obtain ⟨u16, hc15, h⟩ := oc_bind h
          refine kgo_v (wc := (WD6 cI cC cZ a_L a_L_wants a_F a_F_table a_F_spots a_F_points a_F_walls a_F_across a_F_bareLight L_hung L_dead L_standing L_wants F_glow F_spotCount F_pointCount F_wallCount F_table F_spots F_points F_walls F_across F_bareLight)) (wc' := (WD6 cI cC cZ a_L a_L_wants a_F a_F_table a_F_spots a_F_points a_F_walls a_F_across a_F_bareLight L_hung L_dead L_standing u16 F_glow F_spotCount F_pointCount F_wallCount F_table F_spots F_points F_walls F_across F_bareLight)) (ws' := (WD9 cI cC cZ a_A a_A_kinds a_A_numbers a_A_befores a_L a_L_wants a_F a_F_table a_F_spots a_F_points a_F_walls a_F_across a_F_bareLight t3 A_kinds A_numbers A_befores L_hung L_dead L_standing u16 F_glow F_spotCount F_pointCount F_wallCount F_table F_spots F_points F_walls F_across F_bareLight)) C0 hP hD hS [4, 5, 6, 7, 8, 9, 10, 11, 12] [0, 1, 2, 3] [0, 1, 2, 3, 4, 5, 6, 7, 8, 9, 10, 11, 12] [(a_A, .inr (0, [.ref a_A_kinds, .ref a_A_numbers, .ref a_A_befores, .int t3])), (a_A_kinds, .inl (cI, 14, .inl A_kinds)), (a_A_numbers, .inl (cI, 14, .inl A_numbers)), (a_A_befores, .inl (cI, 14, .inl A_befores))] rfl rfl (by decide) (by decide) rfl (by decide) (kVN (n := 2) (As := [.int (A_numbers (Int32.toNatClampNeg t3)), .int (A_befores (Int32.toNatClampNeg t3))]) (rest := []) (wc := (WD6 cI cC cZ a_L a_L_wants a_F a_F_table a_F_spots a_F_points a_F_walls a_F_across a_F_bareLight L_hung L_dead L_standing L_wants F_glow F_spotCount F_pointCount F_wallCount F_table F_spots F_points F_walls F_across F_bareLight)) (C := RX2) C0 hP hD hS [4, 5, 6, 7, 8, 9, 10, 11, 12] rfl (by decide) (c_X2_tellWant l D cI cC cZ a_L a_L_wants a_F a_F_table a_F_spots a_F_points a_F_walls a_F_across a_F_bareLight H.size L_hung L_dead L_standing L_wants F_glow F_spotCount F_pointCount F_wallCount F_table F_spots F_points F_walls F_across F_bareLight (A_numbers (Int32.toNatClampNeg t3)) (A_befores (Int32.toNatClampNeg t3)) u16 hc15) kw_496 (ks_m38 hN) kw_494 kw_495 kw_23 (by decide +kernel) (by decide) rfl rfl rfl hl.1 rfl (Nat.le_of_ble_eq_true rfl) ⟨Nat.zero_le _, Nat.zero_le _⟩ dX0_takeBack_91) (fun H locs hP hD hS => ?_)
          refine lv_goto (tgt := 119) hx hb dX0_takeBack_94 (by decide) ?_
          refine lv_iconst (v := (1 : Int32)) hx hb dX0_takeBack_119 (by decide) ?_
          cases h
          exact kret_i C0 hP hD hS (by decide) dX0_takeBack_120
      · have h := oc_t c5 h
        refine lv_aload_n hx hb dX0_takeBack_42 rfl (lv_at hl 1 rfl) ?_
        refine lv_aload_n hx hb dX0_takeBack_43 rfl (lv_at hl 0 rfl) ?_
        refine va_get (D := D) (ci := 0) (v := .ref a_A_numbers) (C := RX0) (T := TX0) (N := 4) hx hb hts inlX0 hown hK hP 0 rfl rfl 1 (by decide) (hts _ kw_65) (fun _ h9 => h9) rfl dX0_takeBack_44 ?_
        refine lv_aload_n hx hb dX0_takeBack_47 rfl (lv_at hl 0 rfl) ?_
        refine va_get (D := D) (ci := 0) (v := .int t3) (C := RX0) (T := TX0) (N := 4) hx hb hts inlX0 hown hK hP 0 rfl rfl 3 (by decide) (hts _ kw_432) (fun _ h9 => h9) rfl dX0_takeBack_48 ?_
        obtain ⟨hb17, h⟩ := oc_else h
        refine va_iald hx hb hK hP 2 0 rfl rfl hb17 dX0_takeBack_51 ?_
        obtain ⟨u19, hc18, h⟩ := oc_bind h
        refine kgo_v (wc := (WD6 cI cC cZ a_L a_L_wants a_F a_F_table a_F_spots a_F_points a_F_walls a_F_across a_F_bareLight L_hung L_dead L_standing L_wants F_glow F_spotCount F_pointCount F_wallCount F_table F_spots F_points F_walls F_across F_bareLight)) (wc' := (WD6 cI cC cZ a_L a_L_wants a_F a_F_table a_F_spots a_F_points a_F_walls a_F_across a_F_bareLight L_hung L_dead u19 L_wants F_glow F_spotCount F_pointCount F_wallCount F_table F_spots F_points F_walls F_across F_bareLight)) (ws' := (WD9 cI cC cZ a_A a_A_kinds a_A_numbers a_A_befores a_L a_L_wants a_F a_F_table a_F_spots a_F_points a_F_walls a_F_across a_F_bareLight t3 A_kinds A_numbers A_befores L_hung L_dead u19 L_wants F_glow F_spotCount F_pointCount F_wallCount F_table F_spots F_points F_walls F_across F_bareLight)) C0 hP hD hS [4, 5, 6, 7, 8, 9, 10, 11, 12] [0, 1, 2, 3] [0, 1, 2, 3, 4, 5, 6, 7, 8, 9, 10, 11, 12] [(a_A, .inr (0, [.ref a_A_kinds, .ref a_A_numbers, .ref a_A_befores, .int t3])), (a_A_kinds, .inl (cI, 14, .inl A_kinds)), (a_A_numbers, .inl (cI, 14, .inl A_numbers)), (a_A_befores, .inl (cI, 14, .inl A_befores))] rfl rfl (by decide) (by decide) rfl (by decide) (kVN (n := 1) (As := [.int (A_numbers (Int32.toNatClampNeg t3))]) (rest := []) (wc := (WD6 cI cC cZ a_L a_L_wants a_F a_F_table a_F_spots a_F_points a_F_walls a_F_across a_F_bareLight L_hung L_dead L_standing L_wants F_glow F_spotCount F_pointCount F_wallCount F_table F_spots F_points F_walls F_across F_bareLight)) (C := RX2) C0 hP hD hS [4, 5, 6, 7, 8, 9, 10, 11, 12] rfl (by decide) (c_X2_turnWall l D cI cC cZ a_L a_L_wants a_F a_F_table a_F_spots a_F_points a_F_walls a_F_across a_F_bareLight H.size L_hung L_dead L_standing L_wants F_glow F_spotCount F_pointCount F_wallCount F_table F_spots F_points F_walls F_across F_bareLight (A_numbers (Int32.toNatClampNeg t3)) u19 hc18) kw_485 (ks_m37 hN) kw_483 kw_484 kw_23 (by decide +kernel) (by decide) rfl rfl rfl hl.1 rfl (Nat.le_of_ble_eq_true rfl) ⟨Nat.zero_le _, Nat.zero_le _⟩ dX0_takeBack_52) (fun H locs hP hD hS => ?_)
        refine lv_goto (tgt := 119) hx hb dX0_takeBack_55 (by decide) ?_
        refine lv_iconst (v := (1 : Int32)) hx hb dX0_takeBack_119 (by decide) ?_
        cases h
        exact kret_i C0 hP hD hS (by decide) dX0_takeBack_120
    · have h := oc_f c2 h
      refine lv_iconst (v := (0 : Int32)) hx hb dX0_takeBack_17 (by decide) ?_
      cases h
      exact kret_i C0 hP hD hS (by decide) dX0_takeBack_18
abbrev WD10 (cI cC cZ : ClassId) (a_S a_S_points a_S_values a_S_were : Nat) (S_size : Int32) (S_points : Nat → Int32) (S_values : Nat → Int32) (S_were : Nat → Int32) : va_W := [(a_S, .inr (3, [.ref a_S_points, .ref a_S_values, .ref a_S_were, .int S_size])), (a_S_points, .inl (cI, 6, .inl S_points)), (a_S_values, .inl (cI, 6, .inl S_values)), (a_S_were, .inl (cZ, 6, .inl S_were))]
abbrev rm_X3_add : Room := { frames := 0, cells := 0, slots := 0, locals := 0 }
noncomputable def f_X3_add (S_size : Int32) (S_points : Nat → Int32) (S_values : Nat → Int32) (S_were : Nat → Int32) (p1 : Int32) (p2 : Int32) (p3 : Int32) : Option (Int32 × Int32 × (Nat → Int32) × (Nat → Int32) × (Nat → Int32)) := if S_size < 0 then (some ((0 : Int32), S_size, S_points, S_values, S_were)) else (if S_size < (6 : Int32) then (if (S_size < 0 ∨ 6 ≤ Int32.toNatClampNeg S_size) then none else (if (S_size < 0 ∨ 6 ≤ Int32.toNatClampNeg S_size) then none else (if (S_size < 0 ∨ 6 ≤ Int32.toNatClampNeg S_size) then none else (nm_ (S_size + (1 : Int32)) (fun t6 => some ((1 : Int32), t6, (upd S_points (Int32.toNatClampNeg S_size) p1), (upd S_values (Int32.toNatClampNeg S_size) p2), (upd S_were (Int32.toNatClampNeg S_size) (vp_nar .boolean p3)))))))) else (some ((0 : Int32), S_size, S_points, S_values, S_were)))
set_option maxHeartbeats 4000000 in
set_option maxRecDepth 100000 in
theorem c_X3_add (l : Launch) (D : va_G) (cI cC cZ : ClassId) (a_S a_S_points a_S_values a_S_were : Nat) (sz : Nat) (S_size : Int32) (S_points : Nat → Int32) (S_values : Nat → Int32) (S_were : Nat → Int32) (p1 : Int32) (p2 : Int32) (p3 : Int32) (rr : Int32) (u_S_size : Int32) (u_S_points : Nat → Int32) (u_S_values : Nat → Int32) (u_S_were : Nat → Int32) (hf : f_X3_add S_size S_points S_values S_were p1 p2 p3 = some (rr, u_S_size, u_S_points, u_S_values, u_S_were)) : kMet l yX3_add cX3_add 4 (some .boolean) rm_X3_add D (kTY cI cC cZ) [.ref a_S, .int p1, .int p2, .int p3] (WD10 cI cC cZ a_S a_S_points a_S_values a_S_were S_size S_points S_values S_were) sz (kQI D (kTY cI cC cZ) (va_A (WD10 cI cC cZ a_S a_S_points a_S_values a_S_were S_size S_points S_values S_were) sz) rr (WD10 cI cC cZ a_S a_S_points a_S_values a_S_were u_S_size u_S_points u_S_values u_S_were)) := by
  refine kEnter (lv := [(0, .ref a_S), (1, .int p1), (2, .int p2), (3, .int p3)]) (own := RX3) (by decide) rfl (Nat.le_of_ble_eq_true rfl) rfl ?_
  intro p e s m below meth c hsz C0 hP hD hS ls hl
  generalize (va_A (WD10 cI cC cZ a_S a_S_points a_S_values a_S_were S_size S_points S_values S_were) sz) = A at C0 hD hS ⊢
  clear hsz hS
  obtain ⟨H, hHs⟩ : ∃ H : Heap, H = s.heap := ⟨_, rfl⟩
  have hS : va_S A s.heap H [] := by rw [hHs]; exact va_S.rf
  rw [← hHs] at hP ⊢
  obtain ⟨hx, hb, hr, hml, hown, hts, hK, hN, hA, hlocks, hF⟩ := id C0
  have h := hf
  unfold f_X3_add at h
  refine lv_aload_n hx hb dX3_add_0 rfl (lv_at hl 0 rfl) ?_
  refine va_get (D := D) (ci := 3) (v := .int S_size) (C := RX3) (T := TX3) (N := 4) hx hb hts inlX3 hown hK hP 0 rfl rfl 3 (by decide) (hts _ kw_676) (fun _ h9 => h9) rfl dX3_add_1 ?_
  refine lv_if_lt (tgt := 16) hx hb dX3_add_4 (by decide) (fun c1 => ?_) (fun c1 => ?_)
  · have h := oc_t c1 h
    refine lv_iconst (v := (0 : Int32)) hx hb dX3_add_16 (by decide) ?_
    cases h
    exact kret_i C0 hP hD hS (by decide) dX3_add_17
  · have h := oc_f c1 h
    refine lv_aload_n hx hb dX3_add_7 rfl (lv_at hl 0 rfl) ?_
    refine va_get (D := D) (ci := 3) (v := .int S_size) (C := RX3) (T := TX3) (N := 4) hx hb hts inlX3 hown hK hP 0 rfl rfl 3 (by decide) (hts _ kw_676) (fun _ h9 => h9) rfl dX3_add_8 ?_
    refine lv_bipush (v := (6 : Int32)) hx hb dX3_add_11 (by decide) ?_
    refine lv_icmp_lt (tgt := 18) hx hb dX3_add_13 (by decide) (fun c2 => ?_) (fun c2 => ?_)
    · have h := oc_t c2 h
      refine lv_aload_n hx hb dX3_add_18 rfl (lv_at hl 0 rfl) ?_
      refine va_get (D := D) (ci := 3) (v := .ref a_S_points) (C := RX3) (T := TX3) (N := 4) hx hb hts inlX3 hown hK hP 0 rfl rfl 0 (by decide) (hts _ kw_70) (fun _ h9 => h9) rfl dX3_add_19 ?_
      refine lv_aload_n hx hb dX3_add_22 rfl (lv_at hl 0 rfl) ?_
      refine va_get (D := D) (ci := 3) (v := .int S_size) (C := RX3) (T := TX3) (N := 4) hx hb hts inlX3 hown hK hP 0 rfl rfl 3 (by decide) (hts _ kw_676) (fun _ h9 => h9) rfl dX3_add_23 ?_
      refine lv_iload_n hx hb dX3_add_26 rfl (lv_at hl 1 rfl) ?_
      obtain ⟨hb3, h⟩ := oc_else h
      refine va_iast hx hb hK hP hD hS 1 0 rfl rfl hb3 dX3_add_27 (fun H locs hP hD hS => ?_)
      have hP : va_P D vwCl (WD10 cI cC cZ a_S a_S_points a_S_values a_S_were S_size (upd S_points (Int32.toNatClampNeg S_size) p1) S_values S_were) H := hP
      have hD : va_D A (WD10 cI cC cZ a_S a_S_points a_S_values a_S_were S_size (upd S_points (Int32.toNatClampNeg S_size) p1) S_values S_were) := hD
      refine lv_aload_n hx hb dX3_add_28 rfl (lv_at hl 0 rfl) ?_
      refine va_get (D := D) (ci := 3) (v := .ref a_S_values) (C := RX3) (T := TX3) (N := 4) hx hb hts inlX3 hown hK hP 0 rfl rfl 1 (by decide) (hts _ kw_71) (fun _ h9 => h9) rfl dX3_add_29 ?_
      refine lv_aload_n hx hb dX3_add_32 rfl (lv_at hl 0 rfl) ?_
      refine va_get (D := D) (ci := 3) (v := .int S_size) (C := RX3) (T := TX3) (N := 4) hx hb hts inlX3 hown hK hP 0 rfl rfl 3 (by decide) (hts _ kw_676) (fun _ h9 => h9) rfl dX3_add_33 ?_
      refine lv_iload_n hx hb dX3_add_36 rfl (lv_at hl 2 rfl) ?_
      obtain ⟨hb4, h⟩ := oc_else h
      refine va_iast hx hb hK hP hD hS 2 0 rfl rfl hb4 dX3_add_37 (fun H locs hP hD hS => ?_)
      have hP : va_P D vwCl (WD10 cI cC cZ a_S a_S_points a_S_values a_S_were S_size (upd S_points (Int32.toNatClampNeg S_size) p1) (upd S_values (Int32.toNatClampNeg S_size) p2) S_were) H := hP
      have hD : va_D A (WD10 cI cC cZ a_S a_S_points a_S_values a_S_were S_size (upd S_points (Int32.toNatClampNeg S_size) p1) (upd S_values (Int32.toNatClampNeg S_size) p2) S_were) := hD
      refine lv_aload_n hx hb dX3_add_38 rfl (lv_at hl 0 rfl) ?_
      refine va_get (D := D) (ci := 3) (v := .ref a_S_were) (C := RX3) (T := TX3) (N := 4) hx hb hts inlX3 hown hK hP 0 rfl rfl 2 (by decide) (hts _ kw_73) (fun _ h9 => h9) rfl dX3_add_39 ?_
      refine lv_aload_n hx hb dX3_add_42 rfl (lv_at hl 0 rfl) ?_
      refine va_get (D := D) (ci := 3) (v := .int S_size) (C := RX3) (T := TX3) (N := 4) hx hb hts inlX3 hown hK hP 0 rfl rfl 3 (by decide) (hts _ kw_676) (fun _ h9 => h9) rfl dX3_add_43 ?_
      refine lv_iload_n hx hb dX3_add_46 rfl (lv_at hl 3 rfl) ?_
      obtain ⟨hb5, h⟩ := oc_else h
      refine va_zast hx hb hK hP hD hS 3 2 rfl rfl hb5 dX3_add_47 (fun H locs hP hD hS => ?_)
      have hP : va_P D vwCl (WD10 cI cC cZ a_S a_S_points a_S_values a_S_were S_size (upd S_points (Int32.toNatClampNeg S_size) p1) (upd S_values (Int32.toNatClampNeg S_size) p2) (upd S_were (Int32.toNatClampNeg S_size) (vp_nar .boolean p3))) H := hP
      have hD : va_D A (WD10 cI cC cZ a_S a_S_points a_S_values a_S_were S_size (upd S_points (Int32.toNatClampNeg S_size) p1) (upd S_values (Int32.toNatClampNeg S_size) p2) (upd S_were (Int32.toNatClampNeg S_size) (vp_nar .boolean p3))) := hD
      refine lv_aload_n hx hb dX3_add_48 rfl (lv_at hl 0 rfl) ?_
      refine lv_dup hx hb dX3_add_49 rfl ?_
      refine va_get (D := D) (ci := 3) (v := .int S_size) (C := RX3) (T := TX3) (N := 4) hx hb hts inlX3 hown hK hP 0 rfl rfl 3 (by decide) (hts _ kw_676) (fun _ h9 => h9) rfl dX3_add_50 ?_
      refine lv_iconst (v := (1 : Int32)) hx hb dX3_add_53 (by decide) ?_
      refine lv_iadd hx hb dX3_add_54 ?_
      refine lv_topi (fun t6 e_t6 => ?_)
      have h := oc_nm e_t6 h
      refine va_put (D := D) (ci := 3) (v := .int t6) (ty := .int) (C := RX3) (T := TX3) (N := 4) hx hb hts inlX3 tyX3 tyX3_ok nmX3 hown hK hP hD hS 0 rfl rfl 3 (by decide) (hts _ kw_676) (fun _ h9 => h9) rfl (by decide +kernel) rfl rfl (Nat.le_of_ble_eq_true rfl) dX3_add_55 (fun H locs hP hD hS => ?_)
      have hP : va_P D vwCl (WD10 cI cC cZ a_S a_S_points a_S_values a_S_were t6 (upd S_points (Int32.toNatClampNeg S_size) p1) (upd S_values (Int32.toNatClampNeg S_size) p2) (upd S_were (Int32.toNatClampNeg S_size) (vp_nar .boolean p3))) H := hP
      have hD : va_D A (WD10 cI cC cZ a_S a_S_points a_S_values a_S_were t6 (upd S_points (Int32.toNatClampNeg S_size) p1) (upd S_values (Int32.toNatClampNeg S_size) p2) (upd S_were (Int32.toNatClampNeg S_size) (vp_nar .boolean p3))) := hD
      refine lv_iconst (v := (1 : Int32)) hx hb dX3_add_58 (by decide) ?_
      cases h
      exact kret_i C0 hP hD hS (by decide) dX3_add_59
    · have h := oc_f c2 h
      refine lv_iconst (v := (0 : Int32)) hx hb dX3_add_16 (by decide) ?_
      cases h
      exact kret_i C0 hP hD hS (by decide) dX3_add_17
abbrev WD11 (cI cC cZ : ClassId) (a_S a_S_points a_S_values a_S_were a_F a_F_table a_F_spots a_F_points a_F_walls a_F_across a_F_bareLight : Nat) (S_size : Int32) (S_points : Nat → Int32) (S_values : Nat → Int32) (S_were : Nat → Int32) (F_glow : Int32) (F_spotCount : Int32) (F_pointCount : Int32) (F_wallCount : Int32) (F_table : Nat → Int32) (F_spots : Nat → Int32) (F_points : Nat → Int32) (F_walls : Nat → Int32) (F_across : Nat → Int32) (F_bareLight : Nat → Int32) : va_W := [(a_S, .inr (3, [.ref a_S_points, .ref a_S_values, .ref a_S_were, .int S_size])), (a_S_points, .inl (cI, 6, .inl S_points)), (a_S_values, .inl (cI, 6, .inl S_values)), (a_S_were, .inl (cZ, 6, .inl S_were)), (a_F, .inr (1, [.ref a_F_table, .ref a_F_spots, .ref a_F_points, .ref a_F_walls, .ref a_F_across, .ref a_F_bareLight, .int F_glow, .int F_spotCount, .int F_pointCount, .int F_wallCount])), (a_F_table, .inl (cI, 10, .inl F_table)), (a_F_spots, .inl (cI, 32, .inl F_spots)), (a_F_points, .inl (cI, 24, .inl F_points)), (a_F_walls, .inl (cI, 20, .inl F_walls)), (a_F_across, .inl (cI, 48, .inl F_across)), (a_F_bareLight, .inl (cI, 48, .inl F_bareLight))]
abbrev rm_X3_agrees : Room := { frames := 3, cells := 0, slots := 0, locals := 70 }
noncomputable def bk_X3_agrees_64 (k3 : Int32 → Option (Int32)) (S_size : Int32) (S_points : Nat → Int32) (S_values : Nat → Int32) (S_were : Nat → Int32) (F_glow : Int32) (F_spotCount : Int32) (F_pointCount : Int32) (F_across : Nat → Int32) (F_bareLight : Nat → Int32) (p2 : Int32) (p3 : Int32) (p4 : Int32) (s0 : Int32) : Option (Int32) := if (p4 < 0 ∨ 6 ≤ Int32.toNatClampNeg p4) then none else (if s0 = (S_were (Int32.toNatClampNeg p4)) then (nm_ (p4 + (1 : Int32)) (fun t3 => k3 t3)) else (some (0 : Int32)))
set_option maxHeartbeats 4000000 in
set_option maxRecDepth 100000 in
theorem wk_X3_agrees_64 {p : Program} {l : Launch} {e : Env} {s : State} {m : MethodId} {args : Array Value} {below : List Frame} {meth : Method} {c : Code} {D : va_G} {cI cC cZ : ClassId} {A : Nat → Prop} {a_S a_S_points a_S_values a_S_were a_F a_F_table a_F_spots a_F_points a_F_walls a_F_across a_F_bareLight : Nat} {S_size : Int32} {S_points : Nat → Int32} {S_values : Nat → Int32} {S_were : Nat → Int32} {F_glow : Int32} {F_spotCount : Int32} {F_pointCount : Int32} {F_wallCount : Int32} {F_table : Nat → Int32} {F_spots : Nat → Int32} {F_points : Nat → Int32} {F_walls : Nat → Int32} {F_across : Nat → Int32} {F_bareLight : Nat → Int32} {p2 : Int32} {p3 : Int32} {p4 : Int32} {s0 : Int32} {k3 : Int32 → Option (Int32)} {rr : Int32} (C0 : kC p s m args meth c D (kTY cI cC cZ) cX3_agrees (some .boolean) 6 RX3 A) (hk3 : ∀ (p4_k : Int32), k3 p4_k = some rr → ∀ (H : Heap) (locs : List Loc), va_P D vwCl (WD11 cI cC cZ a_S a_S_points a_S_values a_S_were a_F a_F_table a_F_spots a_F_points a_F_walls a_F_across a_F_bareLight S_size S_points S_values S_were F_glow F_spotCount F_pointCount F_wallCount F_table F_spots F_points F_walls F_across F_bareLight) H → va_D A (WD11 cI cC cZ a_S a_S_points a_S_values a_S_were a_F a_F_table a_F_spots a_F_points a_F_walls a_F_across a_F_bareLight S_size S_points S_values S_were F_glow F_spotCount F_pointCount F_wallCount F_table F_spots F_points F_walls F_across F_bareLight) → va_S A s.heap H locs → ∀ ls : Array Slot, lv_has ls 6 [(0, .ref a_S), (1, .ref a_F), (2, .int p2), (3, .int p3), (4, .int p4_k)] → W p l e rm_X3_agrees s m args below meth c H locs 0 0 (MQ below (kQI D (kTY cI cC cZ) A rr (WD11 cI cC cZ a_S a_S_points a_S_values a_S_were a_F a_F_table a_F_spots a_F_points a_F_walls a_F_across a_F_bareLight S_size S_points S_values S_were F_glow F_spotCount F_pointCount F_wallCount F_table F_spots F_points F_walls F_across F_bareLight)) args s 0 0 A) (F0 m 3 ls [])) (h : bk_X3_agrees_64 k3 S_size S_points S_values S_were F_glow F_spotCount F_pointCount F_across F_bareLight p2 p3 p4 s0 = some rr) {H : Heap} {locs : List Loc} (hP : va_P D vwCl (WD11 cI cC cZ a_S a_S_points a_S_values a_S_were a_F a_F_table a_F_spots a_F_points a_F_walls a_F_across a_F_bareLight S_size S_points S_values S_were F_glow F_spotCount F_pointCount F_wallCount F_table F_spots F_points F_walls F_across F_bareLight) H) (hD : va_D A (WD11 cI cC cZ a_S a_S_points a_S_values a_S_were a_F a_F_table a_F_spots a_F_points a_F_walls a_F_across a_F_bareLight S_size S_points S_values S_were F_glow F_spotCount F_pointCount F_wallCount F_table F_spots F_points F_walls F_across F_bareLight)) (hS : va_S A s.heap H locs) {ls : Array Slot} (hl : lv_has ls 6 [(0, .ref a_S), (1, .ref a_F), (2, .int p2), (3, .int p3), (4, .int p4)]) : W p l e rm_X3_agrees s m args below meth c H locs 0 0 (MQ below (kQI D (kTY cI cC cZ) A rr (WD11 cI cC cZ a_S a_S_points a_S_values a_S_were a_F a_F_table a_F_spots a_F_points a_F_walls a_F_across a_F_bareLight S_size S_points S_values S_were F_glow F_spotCount F_pointCount F_wallCount F_table F_spots F_points F_walls F_across F_bareLight)) args s 0 0 A) (F0 m 64 ls [.int s0]) := by
  obtain ⟨hx, hb, hr, hml, hown, hts, hK, hN, hA, hlocks, hF⟩ := id C0
  unfold bk_X3_agrees_64 at h
  refine lv_istore (lv' := [(5, .int s0), (0, .ref a_S), (1, .ref a_F), (2, .int p2), (3, .int p3), (4, .int p4)]) hx hb dX3_agrees_64 hl (by decide) rfl (fun ls hl => ?_)
  refine lv_iload hx hb dX3_agrees_66 (lv_at hl 0 rfl) ?_
  refine lv_aload_n hx hb dX3_agrees_68 rfl (lv_at hl 1 rfl) ?_
  refine va_get (D := D) (ci := 3) (v := .ref a_S_were) (C := RX3) (T := TX3) (N := 4) hx hb hts inlX3 hown hK hP 0 rfl rfl 2 (by decide) (hts _ kw_73) (fun _ h9 => h9) rfl dX3_agrees_69 ?_
  refine lv_iload hx hb dX3_agrees_72 (lv_at hl 5 rfl) ?_
  obtain ⟨hb1, h⟩ := oc_else h
  refine va_zald hx hb hK hP 3 2 rfl rfl hb1 dX3_agrees_74 ?_
  refine lv_icmp_eq (tgt := 80) hx hb dX3_agrees_75 (by decide) (fun c2 => ?_) (fun c2 => ?_)
  · have h := oc_t c2 h
    obtain ⟨t3, e_t3⟩ : ∃ y : Int32, y = p4 + (1 : Int32) := ⟨_, rfl⟩
    have h := oc_nm e_t3 h
    refine lv_iinc (v := t3) (lv' := [(4, .int t3), (5, .int s0), (0, .ref a_S), (1, .ref a_F), (2, .int p2), (3, .int p3)]) hx hb dX3_agrees_80 hl (k := 5) rfl (by rw [e_t3]; rfl) (by decide) rfl (fun ls hl => ?_)
    refine lv_goto (tgt := 3) hx hb dX3_agrees_83 (by decide) ?_
    exact hk3 _ h _ _ hP hD hS _ (lv_sub hl [2, 3, 4, 5, 0] rfl)
  · have h := oc_f c2 h
    refine lv_iconst (v := (0 : Int32)) hx hb dX3_agrees_78 (by decide) ?_
    cases h
    exact kret_i C0 hP hD hS (by decide) dX3_agrees_79
noncomputable def bk_X3_agrees_3 (k3 : Int32 → Option (Int32)) (S_size : Int32) (S_points : Nat → Int32) (S_values : Nat → Int32) (S_were : Nat → Int32) (F_glow : Int32) (F_spotCount : Int32) (F_pointCount : Int32) (F_across : Nat → Int32) (F_bareLight : Nat → Int32) (p2 : Int32) (p3 : Int32) (p4 : Int32) : Option (Int32) := if S_size ≤ p4 then (some (1 : Int32)) else (if (6 : Int32) ≤ p4 then (some (1 : Int32)) else (if (p4 < 0 ∨ 6 ≤ Int32.toNatClampNeg p4) then none else ((f_X1_hasPoint F_pointCount (S_points (Int32.toNatClampNeg p4))).bind (fun r5 => if r5 = 0 then (nm_ (p4 + (1 : Int32)) (fun t12 => k3 t12)) else (if (p4 < 0 ∨ 6 ≤ Int32.toNatClampNeg p4) then none else ((f_X1_sumAt F_glow F_spotCount F_pointCount F_across F_bareLight (S_points (Int32.toNatClampNeg p4)) p2 p3).bind (fun r9 => if (p4 < 0 ∨ 6 ≤ Int32.toNatClampNeg p4) then none else (if r9 < (S_values (Int32.toNatClampNeg p4)) then (bk_X3_agrees_64 k3 S_size S_points S_values S_were F_glow F_spotCount F_pointCount F_across F_bareLight p2 p3 p4 (0 : Int32)) else (bk_X3_agrees_64 k3 S_size S_points S_values S_were F_glow F_spotCount F_pointCount F_across F_bareLight p2 p3 p4 (1 : Int32))))))))))
set_option maxHeartbeats 4000000 in
set_option maxRecDepth 100000 in
theorem wk_X3_agrees_3 {p : Program} {l : Launch} {e : Env} {s : State} {m : MethodId} {args : Array Value} {below : List Frame} {meth : Method} {c : Code} {D : va_G} {cI cC cZ : ClassId} {A : Nat → Prop} {a_S a_S_points a_S_values a_S_were a_F a_F_table a_F_spots a_F_points a_F_walls a_F_across a_F_bareLight : Nat} {S_size : Int32} {S_points : Nat → Int32} {S_values : Nat → Int32} {S_were : Nat → Int32} {F_glow : Int32} {F_spotCount : Int32} {F_pointCount : Int32} {F_wallCount : Int32} {F_table : Nat → Int32} {F_spots : Nat → Int32} {F_points : Nat → Int32} {F_walls : Nat → Int32} {F_across : Nat → Int32} {F_bareLight : Nat → Int32} {p2 : Int32} {p3 : Int32} {p4 : Int32} {k3 : Int32 → Option (Int32)} {rr : Int32} (C0 : kC p s m args meth c D (kTY cI cC cZ) cX3_agrees (some .boolean) 6 RX3 A) (hk3 : ∀ (p4_k : Int32), k3 p4_k = some rr → ∀ (H : Heap) (locs : List Loc), va_P D vwCl (WD11 cI cC cZ a_S a_S_points a_S_values a_S_were a_F a_F_table a_F_spots a_F_points a_F_walls a_F_across a_F_bareLight S_size S_points S_values S_were F_glow F_spotCount F_pointCount F_wallCount F_table F_spots F_points F_walls F_across F_bareLight) H → va_D A (WD11 cI cC cZ a_S a_S_points a_S_values a_S_were a_F a_F_table a_F_spots a_F_points a_F_walls a_F_across a_F_bareLight S_size S_points S_values S_were F_glow F_spotCount F_pointCount F_wallCount F_table F_spots F_points F_walls F_across F_bareLight) → va_S A s.heap H locs → ∀ ls : Array Slot, lv_has ls 6 [(0, .ref a_S), (1, .ref a_F), (2, .int p2), (3, .int p3), (4, .int p4_k)] → W p l e rm_X3_agrees s m args below meth c H locs 0 0 (MQ below (kQI D (kTY cI cC cZ) A rr (WD11 cI cC cZ a_S a_S_points a_S_values a_S_were a_F a_F_table a_F_spots a_F_points a_F_walls a_F_across a_F_bareLight S_size S_points S_values S_were F_glow F_spotCount F_pointCount F_wallCount F_table F_spots F_points F_walls F_across F_bareLight)) args s 0 0 A) (F0 m 3 ls [])) (h : bk_X3_agrees_3 k3 S_size S_points S_values S_were F_glow F_spotCount F_pointCount F_across F_bareLight p2 p3 p4 = some rr) {H : Heap} {locs : List Loc} (hP : va_P D vwCl (WD11 cI cC cZ a_S a_S_points a_S_values a_S_were a_F a_F_table a_F_spots a_F_points a_F_walls a_F_across a_F_bareLight S_size S_points S_values S_were F_glow F_spotCount F_pointCount F_wallCount F_table F_spots F_points F_walls F_across F_bareLight) H) (hD : va_D A (WD11 cI cC cZ a_S a_S_points a_S_values a_S_were a_F a_F_table a_F_spots a_F_points a_F_walls a_F_across a_F_bareLight S_size S_points S_values S_were F_glow F_spotCount F_pointCount F_wallCount F_table F_spots F_points F_walls F_across F_bareLight)) (hS : va_S A s.heap H locs) {ls : Array Slot} (hl : lv_has ls 6 [(0, .ref a_S), (1, .ref a_F), (2, .int p2), (3, .int p3), (4, .int p4)]) : W p l e rm_X3_agrees s m args below meth c H locs 0 0 (MQ below (kQI D (kTY cI cC cZ) A rr (WD11 cI cC cZ a_S a_S_points a_S_values a_S_were a_F a_F_table a_F_spots a_F_points a_F_walls a_F_across a_F_bareLight S_size S_points S_values S_were F_glow F_spotCount F_pointCount F_wallCount F_table F_spots F_points F_walls F_across F_bareLight)) args s 0 0 A) (F0 m 3 ls []) := by
  obtain ⟨hx, hb, hr, hml, hown, hts, hK, hN, hA, hlocks, hF⟩ := id C0
  unfold bk_X3_agrees_3 at h
  refine lv_iload hx hb dX3_agrees_3 (lv_at hl 4 rfl) ?_
  refine lv_aload_n hx hb dX3_agrees_5 rfl (lv_at hl 0 rfl) ?_
  refine va_get (D := D) (ci := 3) (v := .int S_size) (C := RX3) (T := TX3) (N := 4) hx hb hts inlX3 hown hK hP 0 rfl rfl 3 (by decide) (hts _ kw_676) (fun _ h9 => h9) rfl dX3_agrees_6 ?_
  refine lv_icmp_ge (tgt := 86) hx hb dX3_agrees_9 (by decide) (fun c1 => ?_) (fun c1 => ?_)
  · have h := oc_t c1 h
    refine lv_iconst (v := (1 : Int32)) hx hb dX3_agrees_86 (by decide) ?_
    cases h
    exact kret_i C0 hP hD hS (by decide) dX3_agrees_87
  · have h := oc_f c1 h
    refine lv_iload hx hb dX3_agrees_12 (lv_at hl 4 rfl) ?_
    refine lv_bipush (v := (6 : Int32)) hx hb dX3_agrees_14 (by decide) ?_
    refine lv_icmp_ge (tgt := 86) hx hb dX3_agrees_16 (by decide) (fun c2 => ?_) (fun c2 => ?_)
    · have h := oc_t c2 h
      refine lv_iconst (v := (1 : Int32)) hx hb dX3_agrees_86 (by decide) ?_
      cases h
      exact kret_i C0 hP hD hS (by decide) dX3_agrees_87
    · have h := oc_f c2 h
      refine lv_aload_n hx hb dX3_agrees_19 rfl (lv_at hl 1 rfl) ?_
      refine lv_aload_n hx hb dX3_agrees_20 rfl (lv_at hl 0 rfl) ?_
      refine va_get (D := D) (ci := 3) (v := .ref a_S_points) (C := RX3) (T := TX3) (N := 4) hx hb hts inlX3 hown hK hP 0 rfl rfl 0 (by decide) (hts _ kw_70) (fun _ h9 => h9) rfl dX3_agrees_21 ?_
      refine lv_iload hx hb dX3_agrees_24 (lv_at hl 4 rfl) ?_
      obtain ⟨hb3, h⟩ := oc_else h
      refine va_iald hx hb hK hP 1 0 rfl rfl hb3 dX3_agrees_26 ?_
      obtain ⟨r5, hc4, h⟩ := oc_bind h
      refine kro_i (wc := (WD2 cI cC cZ a_F a_F_table a_F_spots a_F_points a_F_walls a_F_across a_F_bareLight F_glow F_spotCount F_pointCount F_wallCount F_table F_spots F_points F_walls F_across F_bareLight)) C0 hP hD hS [4, 5, 6, 7, 8, 9, 10] rfl (kVN (n := 1) (As := [.int (S_points (Int32.toNatClampNeg p4))]) (rest := []) (wc := (WD2 cI cC cZ a_F a_F_table a_F_spots a_F_points a_F_walls a_F_across a_F_bareLight F_glow F_spotCount F_pointCount F_wallCount F_table F_spots F_points F_walls F_across F_bareLight)) (C := RX1) C0 hP hD hS [4, 5, 6, 7, 8, 9, 10] rfl (by decide) (c_X1_hasPoint l D cI cC cZ a_F a_F_table a_F_spots a_F_points a_F_walls a_F_across a_F_bareLight H.size F_glow F_spotCount F_pointCount F_wallCount F_table F_spots F_points F_walls F_across F_bareLight (S_points (Int32.toNatClampNeg p4)) r5 hc4) kw_261 (ks_m52 hN) kw_259 kw_260 kw_19 (by decide +kernel) (by decide) rfl rfl rfl hl.1 rfl (Nat.le_of_ble_eq_true rfl) ⟨Nat.zero_le _, Nat.zero_le _⟩ dX3_agrees_27) (fun H locs hP hS => ?_)
      refine lv_if_ne (tgt := 36) hx hb dX3_agrees_30 (by decide) (fun c6 => ?_) (fun c6 => ?_)
      · have h := oc_f c6 h
        refine lv_aload_n hx hb dX3_agrees_36 rfl (lv_at hl 1 rfl) ?_
        refine lv_aload_n hx hb dX3_agrees_37 rfl (lv_at hl 0 rfl) ?_
        refine va_get (D := D) (ci := 3) (v := .ref a_S_points) (C := RX3) (T := TX3) (N := 4) hx hb hts inlX3 hown hK hP 0 rfl rfl 0 (by decide) (hts _ kw_70) (fun _ h9 => h9) rfl dX3_agrees_38 ?_
        refine lv_iload hx hb dX3_agrees_41 (lv_at hl 4 rfl) ?_
        obtain ⟨hb7, h⟩ := oc_else h
        refine va_iald hx hb hK hP 1 0 rfl rfl hb7 dX3_agrees_43 ?_
        refine lv_iload_n hx hb dX3_agrees_44 rfl (lv_at hl 2 rfl) ?_
        refine lv_iload_n hx hb dX3_agrees_45 rfl (lv_at hl 3 rfl) ?_
        obtain ⟨r9, hc8, h⟩ := oc_bind h
        refine kro_i (wc := (WD2 cI cC cZ a_F a_F_table a_F_spots a_F_points a_F_walls a_F_across a_F_bareLight F_glow F_spotCount F_pointCount F_wallCount F_table F_spots F_points F_walls F_across F_bareLight)) C0 hP hD hS [4, 5, 6, 7, 8, 9, 10] rfl (kVN (n := 3) (As := [.int (S_points (Int32.toNatClampNeg p4)), .int p2, .int p3]) (rest := []) (wc := (WD2 cI cC cZ a_F a_F_table a_F_spots a_F_points a_F_walls a_F_across a_F_bareLight F_glow F_spotCount F_pointCount F_wallCount F_table F_spots F_points F_walls F_across F_bareLight)) (C := RX1) C0 hP hD hS [4, 5, 6, 7, 8, 9, 10] rfl (by decide) (c_X1_sumAt l D cI cC cZ a_F a_F_table a_F_spots a_F_points a_F_walls a_F_across a_F_bareLight H.size F_glow F_spotCount F_pointCount F_wallCount F_table F_spots F_points F_walls F_across F_bareLight (S_points (Int32.toNatClampNeg p4)) p2 p3 r9 hc8) kw_316 (ks_m53 hN) kw_314 kw_315 kw_19 (by decide +kernel) (by decide) rfl rfl rfl hl.1 rfl (Nat.le_of_ble_eq_true rfl) ⟨Nat.zero_le _, Nat.zero_le _⟩ dX3_agrees_46) (fun H locs hP hS => ?_)
        refine lv_aload_n hx hb dX3_agrees_49 rfl (lv_at hl 0 rfl) ?_
        refine va_get (D := D) (ci := 3) (v := .ref a_S_values) (C := RX3) (T := TX3) (N := 4) hx hb hts inlX3 hown hK hP 0 rfl rfl 1 (by decide) (hts _ kw_71) (fun _ h9 => h9) rfl dX3_agrees_50 ?_
        refine lv_iload hx hb dX3_agrees_53 (lv_at hl 4 rfl) ?_
        obtain ⟨hb10, h⟩ := oc_else h
        refine va_iald hx hb hK hP 2 0 rfl rfl hb10 dX3_agrees_55 ?_
        refine lv_icmp_lt (tgt := 63) hx hb dX3_agrees_56 (by decide) (fun c11 => ?_) (fun c11 => ?_)
        · have h := oc_t c11 h
          refine lv_iconst (v := (0 : Int32)) hx hb dX3_agrees_63 (by decide) ?_
          exact wk_X3_agrees_64 C0 hk3 h hP hD hS (lv_sub hl [0, 1, 2, 3, 4] rfl)
        · have h := oc_f c11 h
          refine lv_iconst (v := (1 : Int32)) hx hb dX3_agrees_59 (by decide) ?_
          refine lv_goto (tgt := 64) hx hb dX3_agrees_60 (by decide) ?_
          exact wk_X3_agrees_64 C0 hk3 h hP hD hS (lv_sub hl [0, 1, 2, 3, 4] rfl)
      · have h := oc_t c6 h
        refine lv_goto (tgt := 80) hx hb dX3_agrees_33 (by decide) ?_
        obtain ⟨t12, e_t12⟩ : ∃ y : Int32, y = p4 + (1 : Int32) := ⟨_, rfl⟩
        have h := oc_nm e_t12 h
        refine lv_iinc (v := t12) (lv' := [(4, .int t12), (0, .ref a_S), (1, .ref a_F), (2, .int p2), (3, .int p3)]) hx hb dX3_agrees_80 hl (k := 4) rfl (by rw [e_t12]; rfl) (by decide) rfl (fun ls hl => ?_)
        refine lv_goto (tgt := 3) hx hb dX3_agrees_83 (by decide) ?_
        exact hk3 _ h _ _ hP hD hS _ (lv_sub hl [1, 2, 3, 4, 0] rfl)
noncomputable def lp_X3_agrees_3  (S_size : Int32) (S_points : Nat → Int32) (S_values : Nat → Int32) (S_were : Nat → Int32) (F_glow : Int32) (F_spotCount : Int32) (F_pointCount : Int32) (F_across : Nat → Int32) (F_bareLight : Nat → Int32) (p2 : Int32) (p3 : Int32) (n : Nat) : Int32 → Option (Int32) := Nat.rec (motive := fun _ => Int32 → Option (Int32)) (fun _ => none) (fun _ ih => bk_X3_agrees_3  ih S_size S_points S_values S_were F_glow F_spotCount F_pointCount F_across F_bareLight p2 p3) n
set_option maxHeartbeats 4000000 in
set_option maxRecDepth 100000 in
theorem wl_X3_agrees_3 {p : Program} {l : Launch} {e : Env} {s : State} {m : MethodId} {args : Array Value} {below : List Frame} {meth : Method} {c : Code} {D : va_G} {cI cC cZ : ClassId} {A : Nat → Prop} {a_S a_S_points a_S_values a_S_were a_F a_F_table a_F_spots a_F_points a_F_walls a_F_across a_F_bareLight : Nat} {S_size : Int32} {S_points : Nat → Int32} {S_values : Nat → Int32} {S_were : Nat → Int32} {F_glow : Int32} {F_spotCount : Int32} {F_pointCount : Int32} {F_wallCount : Int32} {F_table : Nat → Int32} {F_spots : Nat → Int32} {F_points : Nat → Int32} {F_walls : Nat → Int32} {F_across : Nat → Int32} {F_bareLight : Nat → Int32} {p2 : Int32} {p3 : Int32}  {rr : Int32} (C0 : kC p s m args meth c D (kTY cI cC cZ) cX3_agrees (some .boolean) 6 RX3 A)  : ∀ (n : Nat) (p4 : Int32), lp_X3_agrees_3  S_size S_points S_values S_were F_glow F_spotCount F_pointCount F_across F_bareLight p2 p3 n p4 = some rr → ∀ (H : Heap) (locs : List Loc), va_P D vwCl (WD11 cI cC cZ a_S a_S_points a_S_values a_S_were a_F a_F_table a_F_spots a_F_points a_F_walls a_F_across a_F_bareLight S_size S_points S_values S_were F_glow F_spotCount F_pointCount F_wallCount F_table F_spots F_points F_walls F_across F_bareLight) H → va_D A (WD11 cI cC cZ a_S a_S_points a_S_values a_S_were a_F a_F_table a_F_spots a_F_points a_F_walls a_F_across a_F_bareLight S_size S_points S_values S_were F_glow F_spotCount F_pointCount F_wallCount F_table F_spots F_points F_walls F_across F_bareLight) → va_S A s.heap H locs → ∀ ls : Array Slot, lv_has ls 6 [(0, .ref a_S), (1, .ref a_F), (2, .int p2), (3, .int p3), (4, .int p4)] → W p l e rm_X3_agrees s m args below meth c H locs 0 0 (MQ below (kQI D (kTY cI cC cZ) A rr (WD11 cI cC cZ a_S a_S_points a_S_values a_S_were a_F a_F_table a_F_spots a_F_points a_F_walls a_F_across a_F_bareLight S_size S_points S_values S_were F_glow F_spotCount F_pointCount F_wallCount F_table F_spots F_points F_walls F_across F_bareLight)) args s 0 0 A) (F0 m 3 ls []) := by
  intro n
  induction n with
  | zero => intro p4 h; cases (show (none : Option (Int32)) = some _ from h)
  | succ n ih =>
    intro p4 h H locs hP hD hS ls hl
    exact wk_X3_agrees_3 C0  (fun p4 h H locs hP hD hS ls hl => ih p4 h H locs hP hD hS ls hl) (show bk_X3_agrees_3  (lp_X3_agrees_3  S_size S_points S_values S_were F_glow F_spotCount F_pointCount F_across F_bareLight p2 p3 n) S_size S_points S_values S_were F_glow F_spotCount F_pointCount F_across F_bareLight p2 p3 p4 = some _ from h) hP hD hS hl
noncomputable def f_X3_agrees (S_size : Int32) (S_points : Nat → Int32) (S_values : Nat → Int32) (S_were : Nat → Int32) (F_glow : Int32) (F_spotCount : Int32) (F_pointCount : Int32) (F_across : Nat → Int32) (F_bareLight : Nat → Int32) (p2 : Int32) (p3 : Int32) : Option (Int32) := lp_X3_agrees_3  S_size S_points S_values S_were F_glow F_spotCount F_pointCount F_across F_bareLight p2 p3 1000 (0 : Int32)
set_option maxHeartbeats 4000000 in
set_option maxRecDepth 100000 in
theorem c_X3_agrees (l : Launch) (D : va_G) (cI cC cZ : ClassId) (a_S a_S_points a_S_values a_S_were a_F a_F_table a_F_spots a_F_points a_F_walls a_F_across a_F_bareLight : Nat) (sz : Nat) (S_size : Int32) (S_points : Nat → Int32) (S_values : Nat → Int32) (S_were : Nat → Int32) (F_glow : Int32) (F_spotCount : Int32) (F_pointCount : Int32) (F_wallCount : Int32) (F_table : Nat → Int32) (F_spots : Nat → Int32) (F_points : Nat → Int32) (F_walls : Nat → Int32) (F_across : Nat → Int32) (F_bareLight : Nat → Int32) (p2 : Int32) (p3 : Int32) (rr : Int32) (hf : f_X3_agrees S_size S_points S_values S_were F_glow F_spotCount F_pointCount F_across F_bareLight p2 p3 = some rr) : kMet l yX3_agrees cX3_agrees 6 (some .boolean) rm_X3_agrees D (kTY cI cC cZ) [.ref a_S, .ref a_F, .int p2, .int p3] (WD11 cI cC cZ a_S a_S_points a_S_values a_S_were a_F a_F_table a_F_spots a_F_points a_F_walls a_F_across a_F_bareLight S_size S_points S_values S_were F_glow F_spotCount F_pointCount F_wallCount F_table F_spots F_points F_walls F_across F_bareLight) sz (kQI D (kTY cI cC cZ) (va_A (WD11 cI cC cZ a_S a_S_points a_S_values a_S_were a_F a_F_table a_F_spots a_F_points a_F_walls a_F_across a_F_bareLight S_size S_points S_values S_were F_glow F_spotCount F_pointCount F_wallCount F_table F_spots F_points F_walls F_across F_bareLight) sz) rr (WD11 cI cC cZ a_S a_S_points a_S_values a_S_were a_F a_F_table a_F_spots a_F_points a_F_walls a_F_across a_F_bareLight S_size S_points S_values S_were F_glow F_spotCount F_pointCount F_wallCount F_table F_spots F_points F_walls F_across F_bareLight)) := by
  refine kEnter (lv := [(0, .ref a_S), (1, .ref a_F), (2, .int p2), (3, .int p3)]) (own := RX3) (by decide) rfl (Nat.le_of_ble_eq_true rfl) rfl ?_
  intro p e s m below meth c hsz C0 hP hD hS ls hl
  generalize (va_A (WD11 cI cC cZ a_S a_S_points a_S_values a_S_were a_F a_F_table a_F_spots a_F_points a_F_walls a_F_across a_F_bareLight S_size S_points S_values S_were F_glow F_spotCount F_pointCount F_wallCount F_table F_spots F_points F_walls F_across F_bareLight) sz) = A at C0 hD hS ⊢
  clear hsz hS
  obtain ⟨H, hHs⟩ : ∃ H : Heap, H = s.heap := ⟨_, rfl⟩
  have hS : va_S A s.heap H [] := by rw [hHs]; exact va_S.rf
  rw [← hHs] at hP ⊢
  obtain ⟨hx, hb, hr, hml, hown, hts, hK, hN, hA, hlocks, hF⟩ := id C0
  have h := hf
  unfold f_X3_agrees at h
  refine lv_iconst (v := (0 : Int32)) hx hb dX3_agrees_0 (by decide) ?_
  refine lv_istore (lv' := [(4, .int (0 : Int32)), (0, .ref a_S), (1, .ref a_F), (2, .int p2), (3, .int p3)]) hx hb dX3_agrees_1 hl (by decide) rfl (fun ls hl => ?_)
  exact wl_X3_agrees_3 C0  _ _ h _ _ hP hD hS _ (lv_sub hl [1, 2, 3, 4, 0] rfl)
abbrev WD12 (cI cC cZ : ClassId) (a_Z a_Z_served a_Z_sums a_F a_F_table a_F_spots a_F_points a_F_walls a_F_across a_F_bareLight : Nat) (Z_served : Nat → Int32) (Z_sums : Nat → Int32) (F_glow : Int32) (F_spotCount : Int32) (F_pointCount : Int32) (F_wallCount : Int32) (F_table : Nat → Int32) (F_spots : Nat → Int32) (F_points : Nat → Int32) (F_walls : Nat → Int32) (F_across : Nat → Int32) (F_bareLight : Nat → Int32) : va_W := [(a_Z, .inr (4, [.ref a_F, .ref a_Z_served, .ref a_Z_sums])), (a_Z_served, .inl (cI, 256, .inl Z_served)), (a_Z_sums, .inl (cI, 256, .inl Z_sums)), (a_F, .inr (1, [.ref a_F_table, .ref a_F_spots, .ref a_F_points, .ref a_F_walls, .ref a_F_across, .ref a_F_bareLight, .int F_glow, .int F_spotCount, .int F_pointCount, .int F_wallCount])), (a_F_table, .inl (cI, 10, .inl F_table)), (a_F_spots, .inl (cI, 32, .inl F_spots)), (a_F_points, .inl (cI, 24, .inl F_points)), (a_F_walls, .inl (cI, 20, .inl F_walls)), (a_F_across, .inl (cI, 48, .inl F_across)), (a_F_bareLight, .inl (cI, 48, .inl F_bareLight))]
abbrev rm_X4_setCount : Room := { frames := 1, cells := 0, slots := 0, locals := 21 }
noncomputable def f_X4_setCount (F_spotCount : Int32)  : Option (Int32) := nm_ (if (256 : Int32) < ((1 : Int32) <<< (F_spotCount &&& 31)) then (256 : Int32) else ((1 : Int32) <<< (F_spotCount &&& 31))) (fun t1 => some t1)
set_option maxHeartbeats 4000000 in
set_option maxRecDepth 100000 in
theorem c_X4_setCount (l : Launch) (D : va_G) (cI cC cZ : ClassId) (a_Z a_Z_served a_Z_sums a_F a_F_table a_F_spots a_F_points a_F_walls a_F_across a_F_bareLight : Nat) (sz : Nat) (Z_served : Nat → Int32) (Z_sums : Nat → Int32) (F_glow : Int32) (F_spotCount : Int32) (F_pointCount : Int32) (F_wallCount : Int32) (F_table : Nat → Int32) (F_spots : Nat → Int32) (F_points : Nat → Int32) (F_walls : Nat → Int32) (F_across : Nat → Int32) (F_bareLight : Nat → Int32) (rr : Int32) (hf : f_X4_setCount F_spotCount = some rr) : kMet l yX4_setCount cX4_setCount 1 (some .int) rm_X4_setCount D (kTY cI cC cZ) [.ref a_Z] (WD12 cI cC cZ a_Z a_Z_served a_Z_sums a_F a_F_table a_F_spots a_F_points a_F_walls a_F_across a_F_bareLight Z_served Z_sums F_glow F_spotCount F_pointCount F_wallCount F_table F_spots F_points F_walls F_across F_bareLight) sz (kQI D (kTY cI cC cZ) (va_A (WD12 cI cC cZ a_Z a_Z_served a_Z_sums a_F a_F_table a_F_spots a_F_points a_F_walls a_F_across a_F_bareLight Z_served Z_sums F_glow F_spotCount F_pointCount F_wallCount F_table F_spots F_points F_walls F_across F_bareLight) sz) rr (WD12 cI cC cZ a_Z a_Z_served a_Z_sums a_F a_F_table a_F_spots a_F_points a_F_walls a_F_across a_F_bareLight Z_served Z_sums F_glow F_spotCount F_pointCount F_wallCount F_table F_spots F_points F_walls F_across F_bareLight)) := by
  refine kEnter (lv := [(0, .ref a_Z)]) (own := RX4) (by decide) rfl (Nat.le_of_ble_eq_true rfl) rfl ?_
  intro p e s m below meth c hsz C0 hP hD hS ls hl
  generalize (va_A (WD12 cI cC cZ a_Z a_Z_served a_Z_sums a_F a_F_table a_F_spots a_F_points a_F_walls a_F_across a_F_bareLight Z_served Z_sums F_glow F_spotCount F_pointCount F_wallCount F_table F_spots F_points F_walls F_across F_bareLight) sz) = A at C0 hD hS ⊢
  clear hsz hS
  obtain ⟨H, hHs⟩ : ∃ H : Heap, H = s.heap := ⟨_, rfl⟩
  have hS : va_S A s.heap H [] := by rw [hHs]; exact va_S.rf
  rw [← hHs] at hP ⊢
  obtain ⟨hx, hb, hr, hml, hown, hts, hK, hN, hA, hlocks, hF⟩ := id C0
  have h := hf
  unfold f_X4_setCount at h
  refine lv_iconst (v := (1 : Int32)) hx hb dX4_setCount_0 (by decide) ?_
  refine lv_aload_n hx hb dX4_setCount_1 rfl (lv_at hl 0 rfl) ?_
  refine va_get (D := D) (ci := 4) (v := .ref a_F) (C := RX4) (T := TX4) (N := 3) hx hb hts inlX4 hown hK hP 0 rfl rfl 0 (by decide) (hts _ kw_79) (fun _ h9 => h9) rfl dX4_setCount_2 ?_
  refine va_getN (D := D) (ci := 1) (v := .int F_spotCount) (C := RX1) (T := TX1) (N := 10) hx hb hts inlX1 hown hK hP 3 rfl rfl 7 (by decide) (va_Nw.use rfl (ks_f4 hN)) (fun _ h9 => h9) rfl dX4_setCount_5 ?_
  refine lv_ishl hx hb dX4_setCount_8 ?_
  refine lv_sipush (v := (256 : Int32)) hx hb dX4_setCount_9 (by decide) ?_
  refine va_mmin hx hb (hml.trans hl.1.symm) hown (hts _ kw_335) (hts _ kw_244) (hts _ kw_245) (hts _ kw_246) (Nat.le_of_ble_eq_true rfl) (Nat.le_of_ble_eq_true rfl) (Nat.zero_le _) (Nat.zero_le _) dX4_setCount_12 ?_
  refine lv_topi (fun t1 e_t1 => ?_)
  have h := oc_nm e_t1 h
  cases h
  exact kret_i C0 hP hD hS rfl dX4_setCount_15
abbrev rm_X4_sumUp : Room := { frames := 2, cells := 0, slots := 0, locals := 45 }
noncomputable def bk_X4_sumUp_52 (k15 : (Nat → Int32) → Int32 → Option ((Nat → Int32))) (k52 : (Nat → Int32) → Int32 → Option ((Nat → Int32))) (F_spotCount : Int32) (F_pointCount : Int32) (F_across : Nat → Int32) (F_bareLight : Nat → Int32) (p1 : Int32) (p2 : Int32) (p3 : Int32) (p4 : Int32) (p5 : Int32) (Z_sums : Nat → Int32) (p6 : Int32) : Option ((Nat → Int32)) := if p4 ≤ p6 then (nm_ (p3 + (1 : Int32)) (fun t2 => k15 Z_sums t2)) else (if (p6 < 0 ∨ 256 ≤ Int32.toNatClampNeg p6) then none else (if ((p4 + p6) < 0 ∨ 256 ≤ Int32.toNatClampNeg (p4 + p6)) then none else (nm_ (p6 + (1 : Int32)) (fun t5 => k52 (upd Z_sums (Int32.toNatClampNeg (p4 + p6)) ((Z_sums (Int32.toNatClampNeg p6)) + p5)) t5))))
set_option maxHeartbeats 4000000 in
set_option maxRecDepth 100000 in
theorem wk_X4_sumUp_52 {p : Program} {l : Launch} {e : Env} {s : State} {m : MethodId} {args : Array Value} {below : List Frame} {meth : Method} {c : Code} {D : va_G} {cI cC cZ : ClassId} {A : Nat → Prop} {a_Z a_Z_served a_Z_sums a_F a_F_table a_F_spots a_F_points a_F_walls a_F_across a_F_bareLight : Nat} {Z_served : Nat → Int32} {Z_sums : Nat → Int32} {F_glow : Int32} {F_spotCount : Int32} {F_pointCount : Int32} {F_wallCount : Int32} {F_table : Nat → Int32} {F_spots : Nat → Int32} {F_points : Nat → Int32} {F_walls : Nat → Int32} {F_across : Nat → Int32} {F_bareLight : Nat → Int32} {p1 : Int32} {p2 : Int32} {p3 : Int32} {p4 : Int32} {p5 : Int32} {p6 : Int32} {k15 : (Nat → Int32) → Int32 → Option ((Nat → Int32))} {k52 : (Nat → Int32) → Int32 → Option ((Nat → Int32))} {u_Z_sums : Nat → Int32} (C0 : kC p s m args meth c D (kTY cI cC cZ) cX4_sumUp none 7 RX4 A) (hk15 : ∀ (Z_sums_k : Nat → Int32) (p3_k : Int32), k15 Z_sums_k p3_k = some u_Z_sums → ∀ (H : Heap) (locs : List Loc), va_P D vwCl (WD12 cI cC cZ a_Z a_Z_served a_Z_sums a_F a_F_table a_F_spots a_F_points a_F_walls a_F_across a_F_bareLight Z_served Z_sums_k F_glow F_spotCount F_pointCount F_wallCount F_table F_spots F_points F_walls F_across F_bareLight) H → va_D A (WD12 cI cC cZ a_Z a_Z_served a_Z_sums a_F a_F_table a_F_spots a_F_points a_F_walls a_F_across a_F_bareLight Z_served Z_sums_k F_glow F_spotCount F_pointCount F_wallCount F_table F_spots F_points F_walls F_across F_bareLight) → va_S A s.heap H locs → ∀ ls : Array Slot, lv_has ls 7 [(0, .ref a_Z), (1, .int p1), (2, .int p2), (3, .int p3_k)] → W p l e rm_X4_sumUp s m args below meth c H locs 0 0 (MQ below (kQV D (kTY cI cC cZ) A (WD12 cI cC cZ a_Z a_Z_served a_Z_sums a_F a_F_table a_F_spots a_F_points a_F_walls a_F_across a_F_bareLight Z_served u_Z_sums F_glow F_spotCount F_pointCount F_wallCount F_table F_spots F_points F_walls F_across F_bareLight)) args s 0 0 A) (F0 m 15 ls [])) (hk52 : ∀ (Z_sums_k : Nat → Int32) (p6_k : Int32), k52 Z_sums_k p6_k = some u_Z_sums → ∀ (H : Heap) (locs : List Loc), va_P D vwCl (WD12 cI cC cZ a_Z a_Z_served a_Z_sums a_F a_F_table a_F_spots a_F_points a_F_walls a_F_across a_F_bareLight Z_served Z_sums_k F_glow F_spotCount F_pointCount F_wallCount F_table F_spots F_points F_walls F_across F_bareLight) H → va_D A (WD12 cI cC cZ a_Z a_Z_served a_Z_sums a_F a_F_table a_F_spots a_F_points a_F_walls a_F_across a_F_bareLight Z_served Z_sums_k F_glow F_spotCount F_pointCount F_wallCount F_table F_spots F_points F_walls F_across F_bareLight) → va_S A s.heap H locs → ∀ ls : Array Slot, lv_has ls 7 [(0, .ref a_Z), (1, .int p1), (2, .int p2), (3, .int p3), (4, .int p4), (5, .int p5), (6, .int p6_k)] → W p l e rm_X4_sumUp s m args below meth c H locs 0 0 (MQ below (kQV D (kTY cI cC cZ) A (WD12 cI cC cZ a_Z a_Z_served a_Z_sums a_F a_F_table a_F_spots a_F_points a_F_walls a_F_across a_F_bareLight Z_served u_Z_sums F_glow F_spotCount F_pointCount F_wallCount F_table F_spots F_points F_walls F_across F_bareLight)) args s 0 0 A) (F0 m 52 ls [])) (h : bk_X4_sumUp_52 k15 k52 F_spotCount F_pointCount F_across F_bareLight p1 p2 p3 p4 p5 Z_sums p6 = some u_Z_sums) {H : Heap} {locs : List Loc} (hP : va_P D vwCl (WD12 cI cC cZ a_Z a_Z_served a_Z_sums a_F a_F_table a_F_spots a_F_points a_F_walls a_F_across a_F_bareLight Z_served Z_sums F_glow F_spotCount F_pointCount F_wallCount F_table F_spots F_points F_walls F_across F_bareLight) H) (hD : va_D A (WD12 cI cC cZ a_Z a_Z_served a_Z_sums a_F a_F_table a_F_spots a_F_points a_F_walls a_F_across a_F_bareLight Z_served Z_sums F_glow F_spotCount F_pointCount F_wallCount F_table F_spots F_points F_walls F_across F_bareLight)) (hS : va_S A s.heap H locs) {ls : Array Slot} (hl : lv_has ls 7 [(0, .ref a_Z), (1, .int p1), (2, .int p2), (3, .int p3), (4, .int p4), (5, .int p5), (6, .int p6)]) : W p l e rm_X4_sumUp s m args below meth c H locs 0 0 (MQ below (kQV D (kTY cI cC cZ) A (WD12 cI cC cZ a_Z a_Z_served a_Z_sums a_F a_F_table a_F_spots a_F_points a_F_walls a_F_across a_F_bareLight Z_served u_Z_sums F_glow F_spotCount F_pointCount F_wallCount F_table F_spots F_points F_walls F_across F_bareLight)) args s 0 0 A) (F0 m 52 ls []) := by
  obtain ⟨hx, hb, hr, hml, hown, hts, hK, hN, hA, hlocks, hF⟩ := id C0
  unfold bk_X4_sumUp_52 at h
  refine lv_iload hx hb dX4_sumUp_52 (lv_at hl 6 rfl) ?_
  refine lv_iload hx hb dX4_sumUp_54 (lv_at hl 4 rfl) ?_
  refine lv_icmp_ge (tgt := 85) hx hb dX4_sumUp_56 (by decide) (fun c1 => ?_) (fun c1 => ?_)
  · have h := oc_t c1 h
    obtain ⟨t2, e_t2⟩ : ∃ y : Int32, y = p3 + (1 : Int32) := ⟨_, rfl⟩
    have h := oc_nm e_t2 h
    refine lv_iinc (v := t2) (lv' := [(3, .int t2), (0, .ref a_Z), (1, .int p1), (2, .int p2), (4, .int p4), (5, .int p5), (6, .int p6)]) hx hb dX4_sumUp_85 hl (k := 3) rfl (by rw [e_t2]; rfl) (by decide) rfl (fun ls hl => ?_)
    refine lv_goto (tgt := 15) hx hb dX4_sumUp_88 (by decide) ?_
    exact hk15 _ _ h _ _ hP hD hS _ (lv_sub hl [1, 2, 3, 0] rfl)
  · have h := oc_f c1 h
    refine lv_aload_n hx hb dX4_sumUp_59 rfl (lv_at hl 0 rfl) ?_
    refine va_get (D := D) (ci := 4) (v := .ref a_Z_sums) (C := RX4) (T := TX4) (N := 3) hx hb hts inlX4 hown hK hP 0 rfl rfl 2 (by decide) (hts _ kw_78) (fun _ h9 => h9) rfl dX4_sumUp_60 ?_
    refine lv_iload hx hb dX4_sumUp_63 (lv_at hl 4 rfl) ?_
    refine lv_iload hx hb dX4_sumUp_65 (lv_at hl 6 rfl) ?_
    refine lv_iadd hx hb dX4_sumUp_67 ?_
    refine lv_aload_n hx hb dX4_sumUp_68 rfl (lv_at hl 0 rfl) ?_
    refine va_get (D := D) (ci := 4) (v := .ref a_Z_sums) (C := RX4) (T := TX4) (N := 3) hx hb hts inlX4 hown hK hP 0 rfl rfl 2 (by decide) (hts _ kw_78) (fun _ h9 => h9) rfl dX4_sumUp_69 ?_
    refine lv_iload hx hb dX4_sumUp_72 (lv_at hl 6 rfl) ?_
    obtain ⟨hb3, h⟩ := oc_else h
    refine va_iald hx hb hK hP 2 0 rfl rfl hb3 dX4_sumUp_74 ?_
    refine lv_iload hx hb dX4_sumUp_75 (lv_at hl 5 rfl) ?_
    refine lv_iadd hx hb dX4_sumUp_77 ?_
    obtain ⟨hb4, h⟩ := oc_else h
    refine va_iast hx hb hK hP hD hS 2 0 rfl rfl hb4 dX4_sumUp_78 (fun H locs hP hD hS => ?_)
    have hP : va_P D vwCl (WD12 cI cC cZ a_Z a_Z_served a_Z_sums a_F a_F_table a_F_spots a_F_points a_F_walls a_F_across a_F_bareLight Z_served (upd Z_sums (Int32.toNatClampNeg (p4 + p6)) ((Z_sums (Int32.toNatClampNeg p6)) + p5)) F_glow F_spotCount F_pointCount F_wallCount F_table F_spots F_points F_walls F_across F_bareLight) H := hP
    have hD : va_D A (WD12 cI cC cZ a_Z a_Z_served a_Z_sums a_F a_F_table a_F_spots a_F_points a_F_walls a_F_across a_F_bareLight Z_served (upd Z_sums (Int32.toNatClampNeg (p4 + p6)) ((Z_sums (Int32.toNatClampNeg p6)) + p5)) F_glow F_spotCount F_pointCount F_wallCount F_table F_spots F_points F_walls F_across F_bareLight) := hD
    obtain ⟨t5, e_t5⟩ : ∃ y : Int32, y = p6 + (1 : Int32) := ⟨_, rfl⟩
    have h := oc_nm e_t5 h
    refine lv_iinc (v := t5) (lv' := [(6, .int t5), (0, .ref a_Z), (1, .int p1), (2, .int p2), (3, .int p3), (4, .int p4), (5, .int p5)]) hx hb dX4_sumUp_79 hl (k := 6) rfl (by rw [e_t5]; rfl) (by decide) rfl (fun ls hl => ?_)
    refine lv_goto (tgt := 52) hx hb dX4_sumUp_82 (by decide) ?_
    exact hk52 _ _ h _ _ hP hD hS _ (lv_sub hl [1, 2, 3, 4, 5, 6, 0] rfl)
noncomputable def lp_X4_sumUp_52 (k15 : (Nat → Int32) → Int32 → Option ((Nat → Int32))) (F_spotCount : Int32) (F_pointCount : Int32) (F_across : Nat → Int32) (F_bareLight : Nat → Int32) (p1 : Int32) (p2 : Int32) (p3 : Int32) (p4 : Int32) (p5 : Int32) (n : Nat) : (Nat → Int32) → Int32 → Option ((Nat → Int32)) := Nat.rec (motive := fun _ => (Nat → Int32) → Int32 → Option ((Nat → Int32))) (fun _ _ => none) (fun _ ih => bk_X4_sumUp_52 k15 ih F_spotCount F_pointCount F_across F_bareLight p1 p2 p3 p4 p5) n
set_option maxHeartbeats 4000000 in
set_option maxRecDepth 100000 in
theorem wl_X4_sumUp_52 {p : Program} {l : Launch} {e : Env} {s : State} {m : MethodId} {args : Array Value} {below : List Frame} {meth : Method} {c : Code} {D : va_G} {cI cC cZ : ClassId} {A : Nat → Prop} {a_Z a_Z_served a_Z_sums a_F a_F_table a_F_spots a_F_points a_F_walls a_F_across a_F_bareLight : Nat} {Z_served : Nat → Int32} {F_glow : Int32} {F_spotCount : Int32} {F_pointCount : Int32} {F_wallCount : Int32} {F_table : Nat → Int32} {F_spots : Nat → Int32} {F_points : Nat → Int32} {F_walls : Nat → Int32} {F_across : Nat → Int32} {F_bareLight : Nat → Int32} {p1 : Int32} {p2 : Int32} {p3 : Int32} {p4 : Int32} {p5 : Int32} {k15 : (Nat → Int32) → Int32 → Option ((Nat → Int32))} {u_Z_sums : Nat → Int32} (C0 : kC p s m args meth c D (kTY cI cC cZ) cX4_sumUp none 7 RX4 A) (hk15 : ∀ (Z_sums_k : Nat → Int32) (p3_k : Int32), k15 Z_sums_k p3_k = some u_Z_sums → ∀ (H : Heap) (locs : List Loc), va_P D vwCl (WD12 cI cC cZ a_Z a_Z_served a_Z_sums a_F a_F_table a_F_spots a_F_points a_F_walls a_F_across a_F_bareLight Z_served Z_sums_k F_glow F_spotCount F_pointCount F_wallCount F_table F_spots F_points F_walls F_across F_bareLight) H → va_D A (WD12 cI cC cZ a_Z a_Z_served a_Z_sums a_F a_F_table a_F_spots a_F_points a_F_walls a_F_across a_F_bareLight Z_served Z_sums_k F_glow F_spotCount F_pointCount F_wallCount F_table F_spots F_points F_walls F_across F_bareLight) → va_S A s.heap H locs → ∀ ls : Array Slot, lv_has ls 7 [(0, .ref a_Z), (1, .int p1), (2, .int p2), (3, .int p3_k)] → W p l e rm_X4_sumUp s m args below meth c H locs 0 0 (MQ below (kQV D (kTY cI cC cZ) A (WD12 cI cC cZ a_Z a_Z_served a_Z_sums a_F a_F_table a_F_spots a_F_points a_F_walls a_F_across a_F_bareLight Z_served u_Z_sums F_glow F_spotCount F_pointCount F_wallCount F_table F_spots F_points F_walls F_across F_bareLight)) args s 0 0 A) (F0 m 15 ls [])) : ∀ (n : Nat) (Z_sums : Nat → Int32) (p6 : Int32), lp_X4_sumUp_52 k15 F_spotCount F_pointCount F_across F_bareLight p1 p2 p3 p4 p5 n Z_sums p6 = some u_Z_sums → ∀ (H : Heap) (locs : List Loc), va_P D vwCl (WD12 cI cC cZ a_Z a_Z_served a_Z_sums a_F a_F_table a_F_spots a_F_points a_F_walls a_F_across a_F_bareLight Z_served Z_sums F_glow F_spotCount F_pointCount F_wallCount F_table F_spots F_points F_walls F_across F_bareLight) H → va_D A (WD12 cI cC cZ a_Z a_Z_served a_Z_sums a_F a_F_table a_F_spots a_F_points a_F_walls a_F_across a_F_bareLight Z_served Z_sums F_glow F_spotCount F_pointCount F_wallCount F_table F_spots F_points F_walls F_across F_bareLight) → va_S A s.heap H locs → ∀ ls : Array Slot, lv_has ls 7 [(0, .ref a_Z), (1, .int p1), (2, .int p2), (3, .int p3), (4, .int p4), (5, .int p5), (6, .int p6)] → W p l e rm_X4_sumUp s m args below meth c H locs 0 0 (MQ below (kQV D (kTY cI cC cZ) A (WD12 cI cC cZ a_Z a_Z_served a_Z_sums a_F a_F_table a_F_spots a_F_points a_F_walls a_F_across a_F_bareLight Z_served u_Z_sums F_glow F_spotCount F_pointCount F_wallCount F_table F_spots F_points F_walls F_across F_bareLight)) args s 0 0 A) (F0 m 52 ls []) := by
  intro n
  induction n with
  | zero => intro Z_sums p6 h; cases (show (none : Option ((Nat → Int32))) = some _ from h)
  | succ n ih =>
    intro Z_sums p6 h H locs hP hD hS ls hl
    exact wk_X4_sumUp_52 C0 hk15 (fun Z_sums p6 h H locs hP hD hS ls hl => ih Z_sums p6 h H locs hP hD hS ls hl) (show bk_X4_sumUp_52 k15 (lp_X4_sumUp_52 k15 F_spotCount F_pointCount F_across F_bareLight p1 p2 p3 p4 p5 n) F_spotCount F_pointCount F_across F_bareLight p1 p2 p3 p4 p5 Z_sums p6 = some _ from h) hP hD hS hl
noncomputable def bk_X4_sumUp_15 (k15 : (Nat → Int32) → Int32 → Option ((Nat → Int32))) (F_spotCount : Int32) (F_pointCount : Int32) (F_across : Nat → Int32) (F_bareLight : Nat → Int32) (p1 : Int32) (p2 : Int32) (Z_sums : Nat → Int32) (p3 : Int32) : Option ((Nat → Int32)) := if F_spotCount ≤ p3 then (some Z_sums) else (if (8 : Int32) ≤ p3 then (some Z_sums) else (nm_ ((1 : Int32) <<< (p3 &&& 31)) (fun t3 => (f_X1_lightOf F_spotCount F_pointCount F_across F_bareLight p3 p1 p2).bind (fun r5 => lp_X4_sumUp_52 k15 F_spotCount F_pointCount F_across F_bareLight p1 p2 p3 t3 r5 1000 Z_sums (0 : Int32)))))
set_option maxHeartbeats 4000000 in
set_option maxRecDepth 100000 in
theorem wk_X4_sumUp_15 {p : Program} {l : Launch} {e : Env} {s : State} {m : MethodId} {args : Array Value} {below : List Frame} {meth : Method} {c : Code} {D : va_G} {cI cC cZ : ClassId} {A : Nat → Prop} {a_Z a_Z_served a_Z_sums a_F a_F_table a_F_spots a_F_points a_F_walls a_F_across a_F_bareLight : Nat} {Z_served : Nat → Int32} {Z_sums : Nat → Int32} {F_glow : Int32} {F_spotCount : Int32} {F_pointCount : Int32} {F_wallCount : Int32} {F_table : Nat → Int32} {F_spots : Nat → Int32} {F_points : Nat → Int32} {F_walls : Nat → Int32} {F_across : Nat → Int32} {F_bareLight : Nat → Int32} {p1 : Int32} {p2 : Int32} {p3 : Int32} {k15 : (Nat → Int32) → Int32 → Option ((Nat → Int32))} {u_Z_sums : Nat → Int32} (C0 : kC p s m args meth c D (kTY cI cC cZ) cX4_sumUp none 7 RX4 A) (hk15 : ∀ (Z_sums_k : Nat → Int32) (p3_k : Int32), k15 Z_sums_k p3_k = some u_Z_sums → ∀ (H : Heap) (locs : List Loc), va_P D vwCl (WD12 cI cC cZ a_Z a_Z_served a_Z_sums a_F a_F_table a_F_spots a_F_points a_F_walls a_F_across a_F_bareLight Z_served Z_sums_k F_glow F_spotCount F_pointCount F_wallCount F_table F_spots F_points F_walls F_across F_bareLight) H → va_D A (WD12 cI cC cZ a_Z a_Z_served a_Z_sums a_F a_F_table a_F_spots a_F_points a_F_walls a_F_across a_F_bareLight Z_served Z_sums_k F_glow F_spotCount F_pointCount F_wallCount F_table F_spots F_points F_walls F_across F_bareLight) → va_S A s.heap H locs → ∀ ls : Array Slot, lv_has ls 7 [(0, .ref a_Z), (1, .int p1), (2, .int p2), (3, .int p3_k)] → W p l e rm_X4_sumUp s m args below meth c H locs 0 0 (MQ below (kQV D (kTY cI cC cZ) A (WD12 cI cC cZ a_Z a_Z_served a_Z_sums a_F a_F_table a_F_spots a_F_points a_F_walls a_F_across a_F_bareLight Z_served u_Z_sums F_glow F_spotCount F_pointCount F_wallCount F_table F_spots F_points F_walls F_across F_bareLight)) args s 0 0 A) (F0 m 15 ls [])) (h : bk_X4_sumUp_15 k15 F_spotCount F_pointCount F_across F_bareLight p1 p2 Z_sums p3 = some u_Z_sums) {H : Heap} {locs : List Loc} (hP : va_P D vwCl (WD12 cI cC cZ a_Z a_Z_served a_Z_sums a_F a_F_table a_F_spots a_F_points a_F_walls a_F_across a_F_bareLight Z_served Z_sums F_glow F_spotCount F_pointCount F_wallCount F_table F_spots F_points F_walls F_across F_bareLight) H) (hD : va_D A (WD12 cI cC cZ a_Z a_Z_served a_Z_sums a_F a_F_table a_F_spots a_F_points a_F_walls a_F_across a_F_bareLight Z_served Z_sums F_glow F_spotCount F_pointCount F_wallCount F_table F_spots F_points F_walls F_across F_bareLight)) (hS : va_S A s.heap H locs) {ls : Array Slot} (hl : lv_has ls 7 [(0, .ref a_Z), (1, .int p1), (2, .int p2), (3, .int p3)]) : W p l e rm_X4_sumUp s m args below meth c H locs 0 0 (MQ below (kQV D (kTY cI cC cZ) A (WD12 cI cC cZ a_Z a_Z_served a_Z_sums a_F a_F_table a_F_spots a_F_points a_F_walls a_F_across a_F_bareLight Z_served u_Z_sums F_glow F_spotCount F_pointCount F_wallCount F_table F_spots F_points F_walls F_across F_bareLight)) args s 0 0 A) (F0 m 15 ls []) := by
  obtain ⟨hx, hb, hr, hml, hown, hts, hK, hN, hA, hlocks, hF⟩ := id C0
  unfold bk_X4_sumUp_15 at h
  refine lv_iload_n hx hb dX4_sumUp_15 rfl (lv_at hl 3 rfl) ?_
  refine lv_aload_n hx hb dX4_sumUp_16 rfl (lv_at hl 0 rfl) ?_
  refine va_get (D := D) (ci := 4) (v := .ref a_F) (C := RX4) (T := TX4) (N := 3) hx hb hts inlX4 hown hK hP 0 rfl rfl 0 (by decide) (hts _ kw_79) (fun _ h9 => h9) rfl dX4_sumUp_17 ?_
  refine va_getN (D := D) (ci := 1) (v := .int F_spotCount) (C := RX1) (T := TX1) (N := 10) hx hb hts inlX1 hown hK hP 3 rfl rfl 7 (by decide) (va_Nw.use rfl (ks_f4 hN)) (fun _ h9 => h9) rfl dX4_sumUp_20 ?_
  refine lv_icmp_ge (tgt := 91) hx hb dX4_sumUp_23 (by decide) (fun c1 => ?_) (fun c1 => ?_)
  · have h := oc_t c1 h
    cases h
    exact kret_v C0 hP hD hS dX4_sumUp_91
  · have h := oc_f c1 h
    refine lv_iload_n hx hb dX4_sumUp_26 rfl (lv_at hl 3 rfl) ?_
    refine lv_bipush (v := (8 : Int32)) hx hb dX4_sumUp_27 (by decide) ?_
    refine lv_icmp_ge (tgt := 91) hx hb dX4_sumUp_29 (by decide) (fun c2 => ?_) (fun c2 => ?_)
    · have h := oc_t c2 h
      cases h
      exact kret_v C0 hP hD hS dX4_sumUp_91
    · have h := oc_f c2 h
      refine lv_iconst (v := (1 : Int32)) hx hb dX4_sumUp_32 (by decide) ?_
      refine lv_iload_n hx hb dX4_sumUp_33 rfl (lv_at hl 3 rfl) ?_
      refine lv_ishl hx hb dX4_sumUp_34 ?_
      refine lv_topi (fun t3 e_t3 => ?_)
      have h := oc_nm e_t3 h
      refine lv_istore (lv' := [(4, .int t3), (0, .ref a_Z), (1, .int p1), (2, .int p2), (3, .int p3)]) hx hb dX4_sumUp_35 hl (by decide) rfl (fun ls hl => ?_)
      refine lv_aload_n hx hb dX4_sumUp_37 rfl (lv_at hl 1 rfl) ?_
      refine va_get (D := D) (ci := 4) (v := .ref a_F) (C := RX4) (T := TX4) (N := 3) hx hb hts inlX4 hown hK hP 0 rfl rfl 0 (by decide) (hts _ kw_79) (fun _ h9 => h9) rfl dX4_sumUp_38 ?_
      refine lv_iload_n hx hb dX4_sumUp_41 rfl (lv_at hl 4 rfl) ?_
      refine lv_iload_n hx hb dX4_sumUp_42 rfl (lv_at hl 2 rfl) ?_
      refine lv_iload_n hx hb dX4_sumUp_43 rfl (lv_at hl 3 rfl) ?_
      obtain ⟨r5, hc4, h⟩ := oc_bind h
      refine kro_i (wc := (WD2 cI cC cZ a_F a_F_table a_F_spots a_F_points a_F_walls a_F_across a_F_bareLight F_glow F_spotCount F_pointCount F_wallCount F_table F_spots F_points F_walls F_across F_bareLight)) C0 hP hD hS [3, 4, 5, 6, 7, 8, 9] rfl (kVN (n := 3) (As := [.int p3, .int p1, .int p2]) (rest := []) (wc := (WD2 cI cC cZ a_F a_F_table a_F_spots a_F_points a_F_walls a_F_across a_F_bareLight F_glow F_spotCount F_pointCount F_wallCount F_table F_spots F_points F_walls F_across F_bareLight)) (C := RX1) C0 hP hD hS [3, 4, 5, 6, 7, 8, 9] rfl (by decide) (c_X1_lightOf l D cI cC cZ a_F a_F_table a_F_spots a_F_points a_F_walls a_F_across a_F_bareLight H.size F_glow F_spotCount F_pointCount F_wallCount F_table F_spots F_points F_walls F_across F_bareLight p3 p1 p2 r5 hc4) kw_320 (ks_m24 hN) kw_318 kw_319 kw_19 (by decide +kernel) (by decide) rfl rfl rfl hl.1 rfl (Nat.le_of_ble_eq_true rfl) ⟨Nat.zero_le _, Nat.zero_le _⟩ dX4_sumUp_44) (fun H locs hP hS => ?_)
      refine lv_istore (lv' := [(5, .int r5), (4, .int t3), (0, .ref a_Z), (1, .int p1), (2, .int p2), (3, .int p3)]) hx hb dX4_sumUp_47 hl (by decide) rfl (fun ls hl => ?_)
      refine lv_iconst (v := (0 : Int32)) hx hb dX4_sumUp_49 (by decide) ?_
      refine lv_istore (lv' := [(6, .int (0 : Int32)), (5, .int r5), (4, .int t3), (0, .ref a_Z), (1, .int p1), (2, .int p2), (3, .int p3)]) hx hb dX4_sumUp_50 hl (by decide) rfl (fun ls hl => ?_)
      exact wl_X4_sumUp_52 C0 hk15 _ _ _ h _ _ hP hD hS _ (lv_sub hl [3, 4, 5, 6, 2, 1, 0] rfl)
noncomputable def lp_X4_sumUp_15  (F_spotCount : Int32) (F_pointCount : Int32) (F_across : Nat → Int32) (F_bareLight : Nat → Int32) (p1 : Int32) (p2 : Int32) (n : Nat) : (Nat → Int32) → Int32 → Option ((Nat → Int32)) := Nat.rec (motive := fun _ => (Nat → Int32) → Int32 → Option ((Nat → Int32))) (fun _ _ => none) (fun _ ih => bk_X4_sumUp_15  ih F_spotCount F_pointCount F_across F_bareLight p1 p2) n
set_option maxHeartbeats 4000000 in
set_option maxRecDepth 100000 in
theorem wl_X4_sumUp_15 {p : Program} {l : Launch} {e : Env} {s : State} {m : MethodId} {args : Array Value} {below : List Frame} {meth : Method} {c : Code} {D : va_G} {cI cC cZ : ClassId} {A : Nat → Prop} {a_Z a_Z_served a_Z_sums a_F a_F_table a_F_spots a_F_points a_F_walls a_F_across a_F_bareLight : Nat} {Z_served : Nat → Int32} {F_glow : Int32} {F_spotCount : Int32} {F_pointCount : Int32} {F_wallCount : Int32} {F_table : Nat → Int32} {F_spots : Nat → Int32} {F_points : Nat → Int32} {F_walls : Nat → Int32} {F_across : Nat → Int32} {F_bareLight : Nat → Int32} {p1 : Int32} {p2 : Int32}  {u_Z_sums : Nat → Int32} (C0 : kC p s m args meth c D (kTY cI cC cZ) cX4_sumUp none 7 RX4 A)  : ∀ (n : Nat) (Z_sums : Nat → Int32) (p3 : Int32), lp_X4_sumUp_15  F_spotCount F_pointCount F_across F_bareLight p1 p2 n Z_sums p3 = some u_Z_sums → ∀ (H : Heap) (locs : List Loc), va_P D vwCl (WD12 cI cC cZ a_Z a_Z_served a_Z_sums a_F a_F_table a_F_spots a_F_points a_F_walls a_F_across a_F_bareLight Z_served Z_sums F_glow F_spotCount F_pointCount F_wallCount F_table F_spots F_points F_walls F_across F_bareLight) H → va_D A (WD12 cI cC cZ a_Z a_Z_served a_Z_sums a_F a_F_table a_F_spots a_F_points a_F_walls a_F_across a_F_bareLight Z_served Z_sums F_glow F_spotCount F_pointCount F_wallCount F_table F_spots F_points F_walls F_across F_bareLight) → va_S A s.heap H locs → ∀ ls : Array Slot, lv_has ls 7 [(0, .ref a_Z), (1, .int p1), (2, .int p2), (3, .int p3)] → W p l e rm_X4_sumUp s m args below meth c H locs 0 0 (MQ below (kQV D (kTY cI cC cZ) A (WD12 cI cC cZ a_Z a_Z_served a_Z_sums a_F a_F_table a_F_spots a_F_points a_F_walls a_F_across a_F_bareLight Z_served u_Z_sums F_glow F_spotCount F_pointCount F_wallCount F_table F_spots F_points F_walls F_across F_bareLight)) args s 0 0 A) (F0 m 15 ls []) := by
  intro n
  induction n with
  | zero => intro Z_sums p3 h; cases (show (none : Option ((Nat → Int32))) = some _ from h)
  | succ n ih =>
    intro Z_sums p3 h H locs hP hD hS ls hl
    exact wk_X4_sumUp_15 C0  (fun Z_sums p3 h H locs hP hD hS ls hl => ih Z_sums p3 h H locs hP hD hS ls hl) (show bk_X4_sumUp_15  (lp_X4_sumUp_15  F_spotCount F_pointCount F_across F_bareLight p1 p2 n) F_spotCount F_pointCount F_across F_bareLight p1 p2 Z_sums p3 = some _ from h) hP hD hS hl
noncomputable def f_X4_sumUp (Z_sums : Nat → Int32) (F_glow : Int32) (F_spotCount : Int32) (F_pointCount : Int32) (F_across : Nat → Int32) (F_bareLight : Nat → Int32) (p1 : Int32) (p2 : Int32) : Option ((Nat → Int32)) := lp_X4_sumUp_15  F_spotCount F_pointCount F_across F_bareLight p1 p2 1000 (upd Z_sums (Int32.toNatClampNeg (0 : Int32)) F_glow) (0 : Int32)
set_option maxHeartbeats 4000000 in
set_option maxRecDepth 100000 in
theorem c_X4_sumUp (l : Launch) (D : va_G) (cI cC cZ : ClassId) (a_Z a_Z_served a_Z_sums a_F a_F_table a_F_spots a_F_points a_F_walls a_F_across a_F_bareLight : Nat) (sz : Nat) (Z_served : Nat → Int32) (Z_sums : Nat → Int32) (F_glow : Int32) (F_spotCount : Int32) (F_pointCount : Int32) (F_wallCount : Int32) (F_table : Nat → Int32) (F_spots : Nat → Int32) (F_points : Nat → Int32) (F_walls : Nat → Int32) (F_across : Nat → Int32) (F_bareLight : Nat → Int32) (p1 : Int32) (p2 : Int32) (u_Z_sums : Nat → Int32) (hf : f_X4_sumUp Z_sums F_glow F_spotCount F_pointCount F_across F_bareLight p1 p2 = some u_Z_sums) : kMet l yX4_sumUp cX4_sumUp 7 none rm_X4_sumUp D (kTY cI cC cZ) [.ref a_Z, .int p1, .int p2] (WD12 cI cC cZ a_Z a_Z_served a_Z_sums a_F a_F_table a_F_spots a_F_points a_F_walls a_F_across a_F_bareLight Z_served Z_sums F_glow F_spotCount F_pointCount F_wallCount F_table F_spots F_points F_walls F_across F_bareLight) sz (kQV D (kTY cI cC cZ) (va_A (WD12 cI cC cZ a_Z a_Z_served a_Z_sums a_F a_F_table a_F_spots a_F_points a_F_walls a_F_across a_F_bareLight Z_served Z_sums F_glow F_spotCount F_pointCount F_wallCount F_table F_spots F_points F_walls F_across F_bareLight) sz) (WD12 cI cC cZ a_Z a_Z_served a_Z_sums a_F a_F_table a_F_spots a_F_points a_F_walls a_F_across a_F_bareLight Z_served u_Z_sums F_glow F_spotCount F_pointCount F_wallCount F_table F_spots F_points F_walls F_across F_bareLight)) := by
  refine kEnter (lv := [(0, .ref a_Z), (1, .int p1), (2, .int p2)]) (own := RX4) (by decide) rfl (Nat.le_of_ble_eq_true rfl) rfl ?_
  intro p e s m below meth c hsz C0 hP hD hS ls hl
  generalize (va_A (WD12 cI cC cZ a_Z a_Z_served a_Z_sums a_F a_F_table a_F_spots a_F_points a_F_walls a_F_across a_F_bareLight Z_served Z_sums F_glow F_spotCount F_pointCount F_wallCount F_table F_spots F_points F_walls F_across F_bareLight) sz) = A at C0 hD hS ⊢
  clear hsz hS
  obtain ⟨H, hHs⟩ : ∃ H : Heap, H = s.heap := ⟨_, rfl⟩
  have hS : va_S A s.heap H [] := by rw [hHs]; exact va_S.rf
  rw [← hHs] at hP ⊢
  obtain ⟨hx, hb, hr, hml, hown, hts, hK, hN, hA, hlocks, hF⟩ := id C0
  have h := hf
  unfold f_X4_sumUp at h
  refine lv_aload_n hx hb dX4_sumUp_0 rfl (lv_at hl 0 rfl) ?_
  refine va_get (D := D) (ci := 4) (v := .ref a_Z_sums) (C := RX4) (T := TX4) (N := 3) hx hb hts inlX4 hown hK hP 0 rfl rfl 2 (by decide) (hts _ kw_78) (fun _ h9 => h9) rfl dX4_sumUp_1 ?_
  refine lv_iconst (v := (0 : Int32)) hx hb dX4_sumUp_4 (by decide) ?_
  refine lv_aload_n hx hb dX4_sumUp_5 rfl (lv_at hl 0 rfl) ?_
  refine va_get (D := D) (ci := 4) (v := .ref a_F) (C := RX4) (T := TX4) (N := 3) hx hb hts inlX4 hown hK hP 0 rfl rfl 0 (by decide) (hts _ kw_79) (fun _ h9 => h9) rfl dX4_sumUp_6 ?_
  refine va_getN (D := D) (ci := 1) (v := .int F_glow) (C := RX1) (T := TX1) (N := 10) hx hb hts inlX1 hown hK hP 3 rfl rfl 6 (by decide) (va_Nw.use rfl (ks_f2 hN)) (fun _ h9 => h9) rfl dX4_sumUp_9 ?_
  refine va_iast hx hb hK hP hD hS 2 0 rfl rfl (show ¬ ((0 : Int32) < 0 ∨ 256 ≤ Int32.toNatClampNeg (0 : Int32)) by decide) dX4_sumUp_12 (fun H locs hP hD hS => ?_)
  have hP : va_P D vwCl (WD12 cI cC cZ a_Z a_Z_served a_Z_sums a_F a_F_table a_F_spots a_F_points a_F_walls a_F_across a_F_bareLight Z_served (upd Z_sums (Int32.toNatClampNeg (0 : Int32)) F_glow) F_glow F_spotCount F_pointCount F_wallCount F_table F_spots F_points F_walls F_across F_bareLight) H := hP
  have hD : va_D A (WD12 cI cC cZ a_Z a_Z_served a_Z_sums a_F a_F_table a_F_spots a_F_points a_F_walls a_F_across a_F_bareLight Z_served (upd Z_sums (Int32.toNatClampNeg (0 : Int32)) F_glow) F_glow F_spotCount F_pointCount F_wallCount F_table F_spots F_points F_walls F_across F_bareLight) := hD
  refine lv_iconst (v := (0 : Int32)) hx hb dX4_sumUp_13 (by decide) ?_
  refine lv_istore_n (lv' := [(3, .int (0 : Int32)), (0, .ref a_Z), (1, .int p1), (2, .int p2)]) hx hb dX4_sumUp_14 rfl hl (by decide) rfl (fun ls hl => ?_)
  exact wl_X4_sumUp_15 C0  _ _ _ h _ _ hP hD hS _ (lv_sub hl [1, 2, 3, 0] rfl)
abbrev WD13 (cI cC cZ : ClassId) (a_Z a_Z_served a_Z_sums a_F a_F_table a_F_spots a_F_points a_F_walls a_F_across a_F_bareLight a_L a_L_wants : Nat) (Z_served : Nat → Int32) (Z_sums : Nat → Int32) (F_glow : Int32) (F_spotCount : Int32) (F_pointCount : Int32) (F_wallCount : Int32) (F_table : Nat → Int32) (F_spots : Nat → Int32) (F_points : Nat → Int32) (F_walls : Nat → Int32) (F_across : Nat → Int32) (F_bareLight : Nat → Int32) (L_hung : Int32) (L_dead : Int32) (L_standing : Int32) (L_wants : Nat → Int32) : va_W := [(a_Z, .inr (4, [.ref a_F, .ref a_Z_served, .ref a_Z_sums])), (a_Z_served, .inl (cI, 256, .inl Z_served)), (a_Z_sums, .inl (cI, 256, .inl Z_sums)), (a_F, .inr (1, [.ref a_F_table, .ref a_F_spots, .ref a_F_points, .ref a_F_walls, .ref a_F_across, .ref a_F_bareLight, .int F_glow, .int F_spotCount, .int F_pointCount, .int F_wallCount])), (a_F_table, .inl (cI, 10, .inl F_table)), (a_F_spots, .inl (cI, 32, .inl F_spots)), (a_F_points, .inl (cI, 24, .inl F_points)), (a_F_walls, .inl (cI, 20, .inl F_walls)), (a_F_across, .inl (cI, 48, .inl F_across)), (a_F_bareLight, .inl (cI, 48, .inl F_bareLight)), (a_L, .inr (2, [.ref a_F, .ref a_L_wants, .int L_hung, .int L_dead, .int L_standing])), (a_L_wants, .inl (cI, 6, .inl L_wants))]
abbrev rm_X4_weigh : Room := { frames := 3, cells := 0, slots := 0, locals := 71 }
noncomputable def bk_X4_weigh_57 (k27 : (Nat → Int32) → (Nat → Int32) → Int32 → Option ((Nat → Int32) × (Nat → Int32))) (k57 : (Nat → Int32) → Int32 → Option ((Nat → Int32) × (Nat → Int32))) (Z_sums : Nat → Int32) (F_glow : Int32) (F_spotCount : Int32) (F_pointCount : Int32) (F_across : Nat → Int32) (F_bareLight : Nat → Int32) (L_standing : Int32) (L_wants : Nat → Int32) (p2 : Int32) (p3 : Int32) (p4 : Int32) (Z_served : Nat → Int32) (p5 : Int32) : Option ((Nat → Int32) × (Nat → Int32)) := if p2 ≤ p5 then (nm_ (p3 + (1 : Int32)) (fun t2 => k27 Z_served Z_sums t2)) else (if (p5 < 0 ∨ 256 ≤ Int32.toNatClampNeg p5) then none else (if (Z_sums (Int32.toNatClampNeg p5)) < p4 then (nm_ (p5 + (1 : Int32)) (fun t5 => k57 Z_served t5)) else (if (p5 < 0 ∨ 256 ≤ Int32.toNatClampNeg p5) then none else (if (p5 < 0 ∨ 256 ≤ Int32.toNatClampNeg p5) then none else (nm_ (p5 + (1 : Int32)) (fun t8 => k57 (upd Z_served (Int32.toNatClampNeg p5) ((Z_served (Int32.toNatClampNeg p5)) ||| ((1 : Int32) <<< (p3 &&& 31)))) t8))))))
set_option maxHeartbeats 4000000 in
set_option maxRecDepth 100000 in
theorem wk_X4_weigh_57 {p : Program} {l : Launch} {e : Env} {s : State} {m : MethodId} {args : Array Value} {below : List Frame} {meth : Method} {c : Code} {D : va_G} {cI cC cZ : ClassId} {A : Nat → Prop} {a_Z a_Z_served a_Z_sums a_F a_F_table a_F_spots a_F_points a_F_walls a_F_across a_F_bareLight a_L a_L_wants : Nat} {Z_served : Nat → Int32} {Z_sums : Nat → Int32} {F_glow : Int32} {F_spotCount : Int32} {F_pointCount : Int32} {F_wallCount : Int32} {F_table : Nat → Int32} {F_spots : Nat → Int32} {F_points : Nat → Int32} {F_walls : Nat → Int32} {F_across : Nat → Int32} {F_bareLight : Nat → Int32} {L_hung : Int32} {L_dead : Int32} {L_standing : Int32} {L_wants : Nat → Int32} {p2 : Int32} {p3 : Int32} {p4 : Int32} {p5 : Int32} {k27 : (Nat → Int32) → (Nat → Int32) → Int32 → Option ((Nat → Int32) × (Nat → Int32))} {k57 : (Nat → Int32) → Int32 → Option ((Nat → Int32) × (Nat → Int32))} {u_Z_served : Nat → Int32} {u_Z_sums : Nat → Int32} (C0 : kC p s m args meth c D (kTY cI cC cZ) cX4_weigh none 6 RX4 A) (hk27 : ∀ (Z_served_k : Nat → Int32) (Z_sums_k : Nat → Int32) (p3_k : Int32), k27 Z_served_k Z_sums_k p3_k = some (u_Z_served, u_Z_sums) → ∀ (H : Heap) (locs : List Loc), va_P D vwCl (WD13 cI cC cZ a_Z a_Z_served a_Z_sums a_F a_F_table a_F_spots a_F_points a_F_walls a_F_across a_F_bareLight a_L a_L_wants Z_served_k Z_sums_k F_glow F_spotCount F_pointCount F_wallCount F_table F_spots F_points F_walls F_across F_bareLight L_hung L_dead L_standing L_wants) H → va_D A (WD13 cI cC cZ a_Z a_Z_served a_Z_sums a_F a_F_table a_F_spots a_F_points a_F_walls a_F_across a_F_bareLight a_L a_L_wants Z_served_k Z_sums_k F_glow F_spotCount F_pointCount F_wallCount F_table F_spots F_points F_walls F_across F_bareLight L_hung L_dead L_standing L_wants) → va_S A s.heap H locs → ∀ ls : Array Slot, lv_has ls 6 [(0, .ref a_Z), (1, .ref a_L), (2, .int p2), (3, .int p3_k)] → W p l e rm_X4_weigh s m args below meth c H locs 0 0 (MQ below (kQV D (kTY cI cC cZ) A (WD13 cI cC cZ a_Z a_Z_served a_Z_sums a_F a_F_table a_F_spots a_F_points a_F_walls a_F_across a_F_bareLight a_L a_L_wants u_Z_served u_Z_sums F_glow F_spotCount F_pointCount F_wallCount F_table F_spots F_points F_walls F_across F_bareLight L_hung L_dead L_standing L_wants)) args s 0 0 A) (F0 m 27 ls [])) (hk57 : ∀ (Z_served_k : Nat → Int32) (p5_k : Int32), k57 Z_served_k p5_k = some (u_Z_served, u_Z_sums) → ∀ (H : Heap) (locs : List Loc), va_P D vwCl (WD13 cI cC cZ a_Z a_Z_served a_Z_sums a_F a_F_table a_F_spots a_F_points a_F_walls a_F_across a_F_bareLight a_L a_L_wants Z_served_k Z_sums F_glow F_spotCount F_pointCount F_wallCount F_table F_spots F_points F_walls F_across F_bareLight L_hung L_dead L_standing L_wants) H → va_D A (WD13 cI cC cZ a_Z a_Z_served a_Z_sums a_F a_F_table a_F_spots a_F_points a_F_walls a_F_across a_F_bareLight a_L a_L_wants Z_served_k Z_sums F_glow F_spotCount F_pointCount F_wallCount F_table F_spots F_points F_walls F_across F_bareLight L_hung L_dead L_standing L_wants) → va_S A s.heap H locs → ∀ ls : Array Slot, lv_has ls 6 [(0, .ref a_Z), (1, .ref a_L), (2, .int p2), (3, .int p3), (4, .int p4), (5, .int p5_k)] → W p l e rm_X4_weigh s m args below meth c H locs 0 0 (MQ below (kQV D (kTY cI cC cZ) A (WD13 cI cC cZ a_Z a_Z_served a_Z_sums a_F a_F_table a_F_spots a_F_points a_F_walls a_F_across a_F_bareLight a_L a_L_wants u_Z_served u_Z_sums F_glow F_spotCount F_pointCount F_wallCount F_table F_spots F_points F_walls F_across F_bareLight L_hung L_dead L_standing L_wants)) args s 0 0 A) (F0 m 57 ls [])) (h : bk_X4_weigh_57 k27 k57 Z_sums F_glow F_spotCount F_pointCount F_across F_bareLight L_standing L_wants p2 p3 p4 Z_served p5 = some (u_Z_served, u_Z_sums)) {H : Heap} {locs : List Loc} (hP : va_P D vwCl (WD13 cI cC cZ a_Z a_Z_served a_Z_sums a_F a_F_table a_F_spots a_F_points a_F_walls a_F_across a_F_bareLight a_L a_L_wants Z_served Z_sums F_glow F_spotCount F_pointCount F_wallCount F_table F_spots F_points F_walls F_across F_bareLight L_hung L_dead L_standing L_wants) H) (hD : va_D A (WD13 cI cC cZ a_Z a_Z_served a_Z_sums a_F a_F_table a_F_spots a_F_points a_F_walls a_F_across a_F_bareLight a_L a_L_wants Z_served Z_sums F_glow F_spotCount F_pointCount F_wallCount F_table F_spots F_points F_walls F_across F_bareLight L_hung L_dead L_standing L_wants)) (hS : va_S A s.heap H locs) {ls : Array Slot} (hl : lv_has ls 6 [(0, .ref a_Z), (1, .ref a_L), (2, .int p2), (3, .int p3), (4, .int p4), (5, .int p5)]) : W p l e rm_X4_weigh s m args below meth c H locs 0 0 (MQ below (kQV D (kTY cI cC cZ) A (WD13 cI cC cZ a_Z a_Z_served a_Z_sums a_F a_F_table a_F_spots a_F_points a_F_walls a_F_across a_F_bareLight a_L a_L_wants u_Z_served u_Z_sums F_glow F_spotCount F_pointCount F_wallCount F_table F_spots F_points F_walls F_across F_bareLight L_hung L_dead L_standing L_wants)) args s 0 0 A) (F0 m 57 ls []) := by
  obtain ⟨hx, hb, hr, hml, hown, hts, hK, hN, hA, hlocks, hF⟩ := id C0
  unfold bk_X4_weigh_57 at h
  refine lv_iload hx hb dX4_weigh_57 (lv_at hl 5 rfl) ?_
  refine lv_iload_n hx hb dX4_weigh_59 rfl (lv_at hl 2 rfl) ?_
  refine lv_icmp_ge (tgt := 94) hx hb dX4_weigh_60 (by decide) (fun c1 => ?_) (fun c1 => ?_)
  · have h := oc_t c1 h
    obtain ⟨t2, e_t2⟩ : ∃ y : Int32, y = p3 + (1 : Int32) := ⟨_, rfl⟩
    have h := oc_nm e_t2 h
    refine lv_iinc (v := t2) (lv' := [(3, .int t2), (0, .ref a_Z), (1, .ref a_L), (2, .int p2), (4, .int p4), (5, .int p5)]) hx hb dX4_weigh_94 hl (k := 3) rfl (by rw [e_t2]; rfl) (by decide) rfl (fun ls hl => ?_)
    refine lv_goto (tgt := 27) hx hb dX4_weigh_97 (by decide) ?_
    exact hk27 _ _ _ h _ _ hP hD hS _ (lv_sub hl [1, 2, 3, 0] rfl)
  · have h := oc_f c1 h
    refine lv_aload_n hx hb dX4_weigh_63 rfl (lv_at hl 0 rfl) ?_
    refine va_get (D := D) (ci := 4) (v := .ref a_Z_sums) (C := RX4) (T := TX4) (N := 3) hx hb hts inlX4 hown hK hP 0 rfl rfl 2 (by decide) (hts _ kw_78) (fun _ h9 => h9) rfl dX4_weigh_64 ?_
    refine lv_iload hx hb dX4_weigh_67 (lv_at hl 5 rfl) ?_
    obtain ⟨hb3, h⟩ := oc_else h
    refine va_iald hx hb hK hP 2 0 rfl rfl hb3 dX4_weigh_69 ?_
    refine lv_iload hx hb dX4_weigh_70 (lv_at hl 4 rfl) ?_
    refine lv_icmp_lt (tgt := 88) hx hb dX4_weigh_72 (by decide) (fun c4 => ?_) (fun c4 => ?_)
    · have h := oc_t c4 h
      obtain ⟨t5, e_t5⟩ : ∃ y : Int32, y = p5 + (1 : Int32) := ⟨_, rfl⟩
      have h := oc_nm e_t5 h
      refine lv_iinc (v := t5) (lv' := [(5, .int t5), (0, .ref a_Z), (1, .ref a_L), (2, .int p2), (3, .int p3), (4, .int p4)]) hx hb dX4_weigh_88 hl (k := 5) rfl (by rw [e_t5]; rfl) (by decide) rfl (fun ls hl => ?_)
      refine lv_goto (tgt := 57) hx hb dX4_weigh_91 (by decide) ?_
      exact hk57 _ _ h _ _ hP hD hS _ (lv_sub hl [1, 2, 3, 4, 5, 0] rfl)
    · have h := oc_f c4 h
      refine lv_aload_n hx hb dX4_weigh_75 rfl (lv_at hl 0 rfl) ?_
      refine va_get (D := D) (ci := 4) (v := .ref a_Z_served) (C := RX4) (T := TX4) (N := 3) hx hb hts inlX4 hown hK hP 0 rfl rfl 1 (by decide) (hts _ kw_77) (fun _ h9 => h9) rfl dX4_weigh_76 ?_
      refine lv_iload hx hb dX4_weigh_79 (lv_at hl 5 rfl) ?_
      refine lv_dup2_11 hx hb dX4_weigh_81 rfl rfl ?_
      obtain ⟨hb6, h⟩ := oc_else h
      refine va_iald hx hb hK hP 1 0 rfl rfl hb6 dX4_weigh_82 ?_
      refine lv_iconst (v := (1 : Int32)) hx hb dX4_weigh_83 (by decide) ?_
      refine lv_iload_n hx hb dX4_weigh_84 rfl (lv_at hl 3 rfl) ?_
      refine lv_ishl hx hb dX4_weigh_85 ?_
      refine lv_ior hx hb dX4_weigh_86 ?_
      obtain ⟨hb7, h⟩ := oc_else h
      refine va_iast hx hb hK hP hD hS 1 0 rfl rfl hb7 dX4_weigh_87 (fun H locs hP hD hS => ?_)
      have hP : va_P D vwCl (WD13 cI cC cZ a_Z a_Z_served a_Z_sums a_F a_F_table a_F_spots a_F_points a_F_walls a_F_across a_F_bareLight a_L a_L_wants (upd Z_served (Int32.toNatClampNeg p5) ((Z_served (Int32.toNatClampNeg p5)) ||| ((1 : Int32) <<< (p3 &&& 31)))) Z_sums F_glow F_spotCount F_pointCount F_wallCount F_table F_spots F_points F_walls F_across F_bareLight L_hung L_dead L_standing L_wants) H := hP
      have hD : va_D A (WD13 cI cC cZ a_Z a_Z_served a_Z_sums a_F a_F_table a_F_spots a_F_points a_F_walls a_F_across a_F_bareLight a_L a_L_wants (upd Z_served (Int32.toNatClampNeg p5) ((Z_served (Int32.toNatClampNeg p5)) ||| ((1 : Int32) <<< (p3 &&& 31)))) Z_sums F_glow F_spotCount F_pointCount F_wallCount F_table F_spots F_points F_walls F_across F_bareLight L_hung L_dead L_standing L_wants) := hD
      obtain ⟨t8, e_t8⟩ : ∃ y : Int32, y = p5 + (1 : Int32) := ⟨_, rfl⟩
      have h := oc_nm e_t8 h
      refine lv_iinc (v := t8) (lv' := [(5, .int t8), (0, .ref a_Z), (1, .ref a_L), (2, .int p2), (3, .int p3), (4, .int p4)]) hx hb dX4_weigh_88 hl (k := 5) rfl (by rw [e_t8]; rfl) (by decide) rfl (fun ls hl => ?_)
      refine lv_goto (tgt := 57) hx hb dX4_weigh_91 (by decide) ?_
      exact hk57 _ _ h _ _ hP hD hS _ (lv_sub hl [1, 2, 3, 4, 5, 0] rfl)
noncomputable def lp_X4_weigh_57 (k27 : (Nat → Int32) → (Nat → Int32) → Int32 → Option ((Nat → Int32) × (Nat → Int32))) (Z_sums : Nat → Int32) (F_glow : Int32) (F_spotCount : Int32) (F_pointCount : Int32) (F_across : Nat → Int32) (F_bareLight : Nat → Int32) (L_standing : Int32) (L_wants : Nat → Int32) (p2 : Int32) (p3 : Int32) (p4 : Int32) (n : Nat) : (Nat → Int32) → Int32 → Option ((Nat → Int32) × (Nat → Int32)) := Nat.rec (motive := fun _ => (Nat → Int32) → Int32 → Option ((Nat → Int32) × (Nat → Int32))) (fun _ _ => none) (fun _ ih => bk_X4_weigh_57 k27 ih Z_sums F_glow F_spotCount F_pointCount F_across F_bareLight L_standing L_wants p2 p3 p4) n
set_option maxHeartbeats 4000000 in
set_option maxRecDepth 100000 in
theorem wl_X4_weigh_57 {p : Program} {l : Launch} {e : Env} {s : State} {m : MethodId} {args : Array Value} {below : List Frame} {meth : Method} {c : Code} {D : va_G} {cI cC cZ : ClassId} {A : Nat → Prop} {a_Z a_Z_served a_Z_sums a_F a_F_table a_F_spots a_F_points a_F_walls a_F_across a_F_bareLight a_L a_L_wants : Nat} {Z_sums : Nat → Int32} {F_glow : Int32} {F_spotCount : Int32} {F_pointCount : Int32} {F_wallCount : Int32} {F_table : Nat → Int32} {F_spots : Nat → Int32} {F_points : Nat → Int32} {F_walls : Nat → Int32} {F_across : Nat → Int32} {F_bareLight : Nat → Int32} {L_hung : Int32} {L_dead : Int32} {L_standing : Int32} {L_wants : Nat → Int32} {p2 : Int32} {p3 : Int32} {p4 : Int32} {k27 : (Nat → Int32) → (Nat → Int32) → Int32 → Option ((Nat → Int32) × (Nat → Int32))} {u_Z_served : Nat → Int32} {u_Z_sums : Nat → Int32} (C0 : kC p s m args meth c D (kTY cI cC cZ) cX4_weigh none 6 RX4 A) (hk27 : ∀ (Z_served_k : Nat → Int32) (Z_sums_k : Nat → Int32) (p3_k : Int32), k27 Z_served_k Z_sums_k p3_k = some (u_Z_served, u_Z_sums) → ∀ (H : Heap) (locs : List Loc), va_P D vwCl (WD13 cI cC cZ a_Z a_Z_served a_Z_sums a_F a_F_table a_F_spots a_F_points a_F_walls a_F_across a_F_bareLight a_L a_L_wants Z_served_k Z_sums_k F_glow F_spotCount F_pointCount F_wallCount F_table F_spots F_points F_walls F_across F_bareLight L_hung L_dead L_standing L_wants) H → va_D A (WD13 cI cC cZ a_Z a_Z_served a_Z_sums a_F a_F_table a_F_spots a_F_points a_F_walls a_F_across a_F_bareLight a_L a_L_wants Z_served_k Z_sums_k F_glow F_spotCount F_pointCount F_wallCount F_table F_spots F_points F_walls F_across F_bareLight L_hung L_dead L_standing L_wants) → va_S A s.heap H locs → ∀ ls : Array Slot, lv_has ls 6 [(0, .ref a_Z), (1, .ref a_L), (2, .int p2), (3, .int p3_k)] → W p l e rm_X4_weigh s m args below meth c H locs 0 0 (MQ below (kQV D (kTY cI cC cZ) A (WD13 cI cC cZ a_Z a_Z_served a_Z_sums a_F a_F_table a_F_spots a_F_points a_F_walls a_F_across a_F_bareLight a_L a_L_wants u_Z_served u_Z_sums F_glow F_spotCount F_pointCount F_wallCount F_table F_spots F_points F_walls F_across F_bareLight L_hung L_dead L_standing L_wants)) args s 0 0 A) (F0 m 27 ls [])) : ∀ (n : Nat) (Z_served : Nat → Int32) (p5 : Int32), lp_X4_weigh_57 k27 Z_sums F_glow F_spotCount F_pointCount F_across F_bareLight L_standing L_wants p2 p3 p4 n Z_served p5 = some (u_Z_served, u_Z_sums) → ∀ (H : Heap) (locs : List Loc), va_P D vwCl (WD13 cI cC cZ a_Z a_Z_served a_Z_sums a_F a_F_table a_F_spots a_F_points a_F_walls a_F_across a_F_bareLight a_L a_L_wants Z_served Z_sums F_glow F_spotCount F_pointCount F_wallCount F_table F_spots F_points F_walls F_across F_bareLight L_hung L_dead L_standing L_wants) H → va_D A (WD13 cI cC cZ a_Z a_Z_served a_Z_sums a_F a_F_table a_F_spots a_F_points a_F_walls a_F_across a_F_bareLight a_L a_L_wants Z_served Z_sums F_glow F_spotCount F_pointCount F_wallCount F_table F_spots F_points F_walls F_across F_bareLight L_hung L_dead L_standing L_wants) → va_S A s.heap H locs → ∀ ls : Array Slot, lv_has ls 6 [(0, .ref a_Z), (1, .ref a_L), (2, .int p2), (3, .int p3), (4, .int p4), (5, .int p5)] → W p l e rm_X4_weigh s m args below meth c H locs 0 0 (MQ below (kQV D (kTY cI cC cZ) A (WD13 cI cC cZ a_Z a_Z_served a_Z_sums a_F a_F_table a_F_spots a_F_points a_F_walls a_F_across a_F_bareLight a_L a_L_wants u_Z_served u_Z_sums F_glow F_spotCount F_pointCount F_wallCount F_table F_spots F_points F_walls F_across F_bareLight L_hung L_dead L_standing L_wants)) args s 0 0 A) (F0 m 57 ls []) := by
  intro n
  induction n with
  | zero => intro Z_served p5 h; cases (show (none : Option ((Nat → Int32) × (Nat → Int32))) = some _ from h)
  | succ n ih =>
    intro Z_served p5 h H locs hP hD hS ls hl
    exact wk_X4_weigh_57 C0 hk27 (fun Z_served p5 h H locs hP hD hS ls hl => ih Z_served p5 h H locs hP hD hS ls hl) (show bk_X4_weigh_57 k27 (lp_X4_weigh_57 k27 Z_sums F_glow F_spotCount F_pointCount F_across F_bareLight L_standing L_wants p2 p3 p4 n) Z_sums F_glow F_spotCount F_pointCount F_across F_bareLight L_standing L_wants p2 p3 p4 Z_served p5 = some _ from h) hP hD hS hl
noncomputable def bk_X4_weigh_27 (k27 : (Nat → Int32) → (Nat → Int32) → Int32 → Option ((Nat → Int32) × (Nat → Int32))) (F_glow : Int32) (F_spotCount : Int32) (F_pointCount : Int32) (F_across : Nat → Int32) (F_bareLight : Nat → Int32) (L_standing : Int32) (L_wants : Nat → Int32) (p2 : Int32) (Z_served : Nat → Int32) (Z_sums : Nat → Int32) (p3 : Int32) : Option ((Nat → Int32) × (Nat → Int32)) := if F_pointCount ≤ p3 then (some (Z_served, Z_sums)) else ((f_X4_sumUp Z_sums F_glow F_spotCount F_pointCount F_across F_bareLight p3 L_standing).bind (fun u3 => (f_X2_wantOf L_wants p3).bind (fun r5 => lp_X4_weigh_57 k27 u3 F_glow F_spotCount F_pointCount F_across F_bareLight L_standing L_wants p2 p3 r5 1000 Z_served (0 : Int32))))
set_option maxHeartbeats 4000000 in
set_option maxRecDepth 100000 in
theorem wk_X4_weigh_27 {p : Program} {l : Launch} {e : Env} {s : State} {m : MethodId} {args : Array Value} {below : List Frame} {meth : Method} {c : Code} {D : va_G} {cI cC cZ : ClassId} {A : Nat → Prop} {a_Z a_Z_served a_Z_sums a_F a_F_table a_F_spots a_F_points a_F_walls a_F_across a_F_bareLight a_L a_L_wants : Nat} {Z_served : Nat → Int32} {Z_sums : Nat → Int32} {F_glow : Int32} {F_spotCount : Int32} {F_pointCount : Int32} {F_wallCount : Int32} {F_table : Nat → Int32} {F_spots : Nat → Int32} {F_points : Nat → Int32} {F_walls : Nat → Int32} {F_across : Nat → Int32} {F_bareLight : Nat → Int32} {L_hung : Int32} {L_dead : Int32} {L_standing : Int32} {L_wants : Nat → Int32} {p2 : Int32} {p3 : Int32} {k27 : (Nat → Int32) → (Nat → Int32) → Int32 → Option ((Nat → Int32) × (Nat → Int32))} {u_Z_served : Nat → Int32} {u_Z_sums : Nat → Int32} (C0 : kC p s m args meth c D (kTY cI cC cZ) cX4_weigh none 6 RX4 A) (hk27 : ∀ (Z_served_k : Nat → Int32) (Z_sums_k : Nat → Int32) (p3_k : Int32), k27 Z_served_k Z_sums_k p3_k = some (u_Z_served, u_Z_sums) → ∀ (H : Heap) (locs : List Loc), va_P D vwCl (WD13 cI cC cZ a_Z a_Z_served a_Z_sums a_F a_F_table a_F_spots a_F_points a_F_walls a_F_across a_F_bareLight a_L a_L_wants Z_served_k Z_sums_k F_glow F_spotCount F_pointCount F_wallCount F_table F_spots F_points F_walls F_across F_bareLight L_hung L_dead L_standing L_wants) H → va_D A (WD13 cI cC cZ a_Z a_Z_served a_Z_sums a_F a_F_table a_F_spots a_F_points a_F_walls a_F_across a_F_bareLight a_L a_L_wants Z_served_k Z_sums_k F_glow F_spotCount F_pointCount F_wallCount F_table F_spots F_points F_walls F_across F_bareLight L_hung L_dead L_standing L_wants) → va_S A s.heap H locs → ∀ ls : Array Slot, lv_has ls 6 [(0, .ref a_Z), (1, .ref a_L), (2, .int p2), (3, .int p3_k)] → W p l e rm_X4_weigh s m args below meth c H locs 0 0 (MQ below (kQV D (kTY cI cC cZ) A (WD13 cI cC cZ a_Z a_Z_served a_Z_sums a_F a_F_table a_F_spots a_F_points a_F_walls a_F_across a_F_bareLight a_L a_L_wants u_Z_served u_Z_sums F_glow F_spotCount F_pointCount F_wallCount F_table F_spots F_points F_walls F_across F_bareLight L_hung L_dead L_standing L_wants)) args s 0 0 A) (F0 m 27 ls [])) (h : bk_X4_weigh_27 k27 F_glow F_spotCount F_pointCount F_across F_bareLight L_standing L_wants p2 Z_served Z_sums p3 = some (u_Z_served, u_Z_sums)) {H : Heap} {locs : List Loc} (hP : va_P D vwCl (WD13 cI cC cZ a_Z a_Z_served a_Z_sums a_F a_F_table a_F_spots a_F_points a_F_walls a_F_across a_F_bareLight a_L a_L_wants Z_served Z_sums F_glow F_spotCount F_pointCount F_wallCount F_table F_spots F_points F_walls F_across F_bareLight L_hung L_dead L_standing L_wants) H) (hD : va_D A (WD13 cI cC cZ a_Z a_Z_served a_Z_sums a_F a_F_table a_F_spots a_F_points a_F_walls a_F_across a_F_bareLight a_L a_L_wants Z_served Z_sums F_glow F_spotCount F_pointCount F_wallCount F_table F_spots F_points F_walls F_across F_bareLight L_hung L_dead L_standing L_wants)) (hS : va_S A s.heap H locs) {ls : Array Slot} (hl : lv_has ls 6 [(0, .ref a_Z), (1, .ref a_L), (2, .int p2), (3, .int p3)]) : W p l e rm_X4_weigh s m args below meth c H locs 0 0 (MQ below (kQV D (kTY cI cC cZ) A (WD13 cI cC cZ a_Z a_Z_served a_Z_sums a_F a_F_table a_F_spots a_F_points a_F_walls a_F_across a_F_bareLight a_L a_L_wants u_Z_served u_Z_sums F_glow F_spotCount F_pointCount F_wallCount F_table F_spots F_points F_walls F_across F_bareLight L_hung L_dead L_standing L_wants)) args s 0 0 A) (F0 m 27 ls []) := by
  obtain ⟨hx, hb, hr, hml, hown, hts, hK, hN, hA, hlocks, hF⟩ := id C0
  unfold bk_X4_weigh_27 at h
  refine lv_iload_n hx hb dX4_weigh_27 rfl (lv_at hl 3 rfl) ?_
  refine lv_aload_n hx hb dX4_weigh_28 rfl (lv_at hl 0 rfl) ?_
  refine va_get (D := D) (ci := 4) (v := .ref a_F) (C := RX4) (T := TX4) (N := 3) hx hb hts inlX4 hown hK hP 0 rfl rfl 0 (by decide) (hts _ kw_79) (fun _ h9 => h9) rfl dX4_weigh_29 ?_
  refine va_getN (D := D) (ci := 1) (v := .int F_pointCount) (C := RX1) (T := TX1) (N := 10) hx hb hts inlX1 hown hK hP 3 rfl rfl 8 (by decide) (va_Nw.use rfl (ks_f6 hN)) (fun _ h9 => h9) rfl dX4_weigh_32 ?_
  refine lv_icmp_ge (tgt := 100) hx hb dX4_weigh_35 (by decide) (fun c1 => ?_) (fun c1 => ?_)
  · have h := oc_t c1 h
    cases h
    exact kret_v C0 hP hD hS dX4_weigh_100
  · have h := oc_f c1 h
    refine lv_aload_n hx hb dX4_weigh_38 rfl (lv_at hl 0 rfl) ?_
    refine lv_iload_n hx hb dX4_weigh_39 rfl (lv_at hl 3 rfl) ?_
    refine lv_aload_n hx hb dX4_weigh_40 rfl (lv_at hl 1 rfl) ?_
    refine va_getN (D := D) (ci := 2) (v := .int L_standing) (C := RX2) (T := TX2) (N := 5) hx hb hts inlX2 hown hK hP 10 rfl rfl 4 (by decide) (va_Nw.use rfl (ks_f13 hN)) (fun _ h9 => h9) rfl dX4_weigh_41 ?_
    obtain ⟨u3, hc2, h⟩ := oc_bind h
    refine kgo_v (wc := (WD12 cI cC cZ a_Z a_Z_served a_Z_sums a_F a_F_table a_F_spots a_F_points a_F_walls a_F_across a_F_bareLight Z_served Z_sums F_glow F_spotCount F_pointCount F_wallCount F_table F_spots F_points F_walls F_across F_bareLight)) (wc' := (WD12 cI cC cZ a_Z a_Z_served a_Z_sums a_F a_F_table a_F_spots a_F_points a_F_walls a_F_across a_F_bareLight Z_served u3 F_glow F_spotCount F_pointCount F_wallCount F_table F_spots F_points F_walls F_across F_bareLight)) (ws' := (WD13 cI cC cZ a_Z a_Z_served a_Z_sums a_F a_F_table a_F_spots a_F_points a_F_walls a_F_across a_F_bareLight a_L a_L_wants Z_served u3 F_glow F_spotCount F_pointCount F_wallCount F_table F_spots F_points F_walls F_across F_bareLight L_hung L_dead L_standing L_wants)) C0 hP hD hS [0, 1, 2, 3, 4, 5, 6, 7, 8, 9] [10, 11] [2, 3, 4, 5, 6, 7, 8, 9, 10, 11, 0, 1] [(a_L, .inr (2, [.ref a_F, .ref a_L_wants, .int L_hung, .int L_dead, .int L_standing])), (a_L_wants, .inl (cI, 6, .inl L_wants))] rfl rfl (by decide) (by decide) rfl (by decide) (kV (n := 2) (As := [.int p3, .int L_standing]) (rest := []) (wc := (WD12 cI cC cZ a_Z a_Z_served a_Z_sums a_F a_F_table a_F_spots a_F_points a_F_walls a_F_across a_F_bareLight Z_served Z_sums F_glow F_spotCount F_pointCount F_wallCount F_table F_spots F_points F_walls F_across F_bareLight)) (C := RX4) C0 hP hD hS [0, 1, 2, 3, 4, 5, 6, 7, 8, 9] rfl (by decide) (c_X4_sumUp l D cI cC cZ a_Z a_Z_served a_Z_sums a_F a_F_table a_F_spots a_F_points a_F_walls a_F_across a_F_bareLight H.size Z_served Z_sums F_glow F_spotCount F_pointCount F_wallCount F_table F_spots F_points F_walls F_across F_bareLight p3 L_standing u3 hc2) kw_339 kw_336 kw_337 kw_338 kw_38 (by decide +kernel) (by decide) rfl rfl rfl hl.1 rfl (Nat.le_of_ble_eq_true rfl) ⟨Nat.zero_le _, Nat.zero_le _⟩ dX4_weigh_44) (fun H locs hP hD hS => ?_)
    refine lv_aload_n hx hb dX4_weigh_47 rfl (lv_at hl 1 rfl) ?_
    refine lv_iload_n hx hb dX4_weigh_48 rfl (lv_at hl 3 rfl) ?_
    obtain ⟨r5, hc4, h⟩ := oc_bind h
    refine kro_i (wc := (WD6 cI cC cZ a_L a_L_wants a_F a_F_table a_F_spots a_F_points a_F_walls a_F_across a_F_bareLight L_hung L_dead L_standing L_wants F_glow F_spotCount F_pointCount F_wallCount F_table F_spots F_points F_walls F_across F_bareLight)) C0 hP hD hS [10, 11, 3, 4, 5, 6, 7, 8, 9] rfl (kVN (n := 1) (As := [.int p3]) (rest := []) (wc := (WD6 cI cC cZ a_L a_L_wants a_F a_F_table a_F_spots a_F_points a_F_walls a_F_across a_F_bareLight L_hung L_dead L_standing L_wants F_glow F_spotCount F_pointCount F_wallCount F_table F_spots F_points F_walls F_across F_bareLight)) (C := RX2) C0 hP hD hS [10, 11, 3, 4, 5, 6, 7, 8, 9] rfl (by decide) (c_X2_wantOf l D cI cC cZ a_L a_L_wants a_F a_F_table a_F_spots a_F_points a_F_walls a_F_across a_F_bareLight H.size L_hung L_dead L_standing L_wants F_glow F_spotCount F_pointCount F_wallCount F_table F_spots F_points F_walls F_across F_bareLight p3 r5 hc4) kw_306 (ks_m25 hN) kw_304 kw_305 kw_23 (by decide +kernel) (by decide) rfl rfl rfl hl.1 rfl (Nat.le_of_ble_eq_true rfl) ⟨Nat.zero_le _, Nat.zero_le _⟩ dX4_weigh_49) (fun H locs hP hS => ?_)
    refine lv_istore (lv' := [(4, .int r5), (0, .ref a_Z), (1, .ref a_L), (2, .int p2), (3, .int p3)]) hx hb dX4_weigh_52 hl (by decide) rfl (fun ls hl => ?_)
    refine lv_iconst (v := (0 : Int32)) hx hb dX4_weigh_54 (by decide) ?_
    refine lv_istore (lv' := [(5, .int (0 : Int32)), (4, .int r5), (0, .ref a_Z), (1, .ref a_L), (2, .int p2), (3, .int p3)]) hx hb dX4_weigh_55 hl (by decide) rfl (fun ls hl => ?_)
    exact wl_X4_weigh_57 C0 hk27 _ _ _ h _ _ hP hD hS _ (lv_sub hl [2, 3, 4, 5, 1, 0] rfl)
noncomputable def lp_X4_weigh_27  (F_glow : Int32) (F_spotCount : Int32) (F_pointCount : Int32) (F_across : Nat → Int32) (F_bareLight : Nat → Int32) (L_standing : Int32) (L_wants : Nat → Int32) (p2 : Int32) (n : Nat) : (Nat → Int32) → (Nat → Int32) → Int32 → Option ((Nat → Int32) × (Nat → Int32)) := Nat.rec (motive := fun _ => (Nat → Int32) → (Nat → Int32) → Int32 → Option ((Nat → Int32) × (Nat → Int32))) (fun _ _ _ => none) (fun _ ih => bk_X4_weigh_27  ih F_glow F_spotCount F_pointCount F_across F_bareLight L_standing L_wants p2) n
set_option maxHeartbeats 4000000 in
set_option maxRecDepth 100000 in
theorem wl_X4_weigh_27 {p : Program} {l : Launch} {e : Env} {s : State} {m : MethodId} {args : Array Value} {below : List Frame} {meth : Method} {c : Code} {D : va_G} {cI cC cZ : ClassId} {A : Nat → Prop} {a_Z a_Z_served a_Z_sums a_F a_F_table a_F_spots a_F_points a_F_walls a_F_across a_F_bareLight a_L a_L_wants : Nat} {F_glow : Int32} {F_spotCount : Int32} {F_pointCount : Int32} {F_wallCount : Int32} {F_table : Nat → Int32} {F_spots : Nat → Int32} {F_points : Nat → Int32} {F_walls : Nat → Int32} {F_across : Nat → Int32} {F_bareLight : Nat → Int32} {L_hung : Int32} {L_dead : Int32} {L_standing : Int32} {L_wants : Nat → Int32} {p2 : Int32}  {u_Z_served : Nat → Int32} {u_Z_sums : Nat → Int32} (C0 : kC p s m args meth c D (kTY cI cC cZ) cX4_weigh none 6 RX4 A)  : ∀ (n : Nat) (Z_served : Nat → Int32) (Z_sums : Nat → Int32) (p3 : Int32), lp_X4_weigh_27  F_glow F_spotCount F_pointCount F_across F_bareLight L_standing L_wants p2 n Z_served Z_sums p3 = some (u_Z_served, u_Z_sums) → ∀ (H : Heap) (locs : List Loc), va_P D vwCl (WD13 cI cC cZ a_Z a_Z_served a_Z_sums a_F a_F_table a_F_spots a_F_points a_F_walls a_F_across a_F_bareLight a_L a_L_wants Z_served Z_sums F_glow F_spotCount F_pointCount F_wallCount F_table F_spots F_points F_walls F_across F_bareLight L_hung L_dead L_standing L_wants) H → va_D A (WD13 cI cC cZ a_Z a_Z_served a_Z_sums a_F a_F_table a_F_spots a_F_points a_F_walls a_F_across a_F_bareLight a_L a_L_wants Z_served Z_sums F_glow F_spotCount F_pointCount F_wallCount F_table F_spots F_points F_walls F_across F_bareLight L_hung L_dead L_standing L_wants) → va_S A s.heap H locs → ∀ ls : Array Slot, lv_has ls 6 [(0, .ref a_Z), (1, .ref a_L), (2, .int p2), (3, .int p3)] → W p l e rm_X4_weigh s m args below meth c H locs 0 0 (MQ below (kQV D (kTY cI cC cZ) A (WD13 cI cC cZ a_Z a_Z_served a_Z_sums a_F a_F_table a_F_spots a_F_points a_F_walls a_F_across a_F_bareLight a_L a_L_wants u_Z_served u_Z_sums F_glow F_spotCount F_pointCount F_wallCount F_table F_spots F_points F_walls F_across F_bareLight L_hung L_dead L_standing L_wants)) args s 0 0 A) (F0 m 27 ls []) := by
  intro n
  induction n with
  | zero => intro Z_served Z_sums p3 h; cases (show (none : Option ((Nat → Int32) × (Nat → Int32))) = some _ from h)
  | succ n ih =>
    intro Z_served Z_sums p3 h H locs hP hD hS ls hl
    exact wk_X4_weigh_27 C0  (fun Z_served Z_sums p3 h H locs hP hD hS ls hl => ih Z_served Z_sums p3 h H locs hP hD hS ls hl) (show bk_X4_weigh_27  (lp_X4_weigh_27  F_glow F_spotCount F_pointCount F_across F_bareLight L_standing L_wants p2 n) F_glow F_spotCount F_pointCount F_across F_bareLight L_standing L_wants p2 Z_served Z_sums p3 = some _ from h) hP hD hS hl
noncomputable def bk_X4_weigh_7 (k7 : (Nat → Int32) → Int32 → Option ((Nat → Int32) × (Nat → Int32))) (Z_sums : Nat → Int32) (F_glow : Int32) (F_spotCount : Int32) (F_pointCount : Int32) (F_across : Nat → Int32) (F_bareLight : Nat → Int32) (L_standing : Int32) (L_wants : Nat → Int32) (p2 : Int32) (Z_served : Nat → Int32) (p3 : Int32) : Option ((Nat → Int32) × (Nat → Int32)) := if p2 ≤ p3 then (lp_X4_weigh_27  F_glow F_spotCount F_pointCount F_across F_bareLight L_standing L_wants p2 1000 Z_served Z_sums (0 : Int32)) else (if (p3 < 0 ∨ 256 ≤ Int32.toNatClampNeg p3) then none else (nm_ (p3 + (1 : Int32)) (fun t3 => k7 (upd Z_served (Int32.toNatClampNeg p3) (0 : Int32)) t3)))
set_option maxHeartbeats 4000000 in
set_option maxRecDepth 100000 in
theorem wk_X4_weigh_7 {p : Program} {l : Launch} {e : Env} {s : State} {m : MethodId} {args : Array Value} {below : List Frame} {meth : Method} {c : Code} {D : va_G} {cI cC cZ : ClassId} {A : Nat → Prop} {a_Z a_Z_served a_Z_sums a_F a_F_table a_F_spots a_F_points a_F_walls a_F_across a_F_bareLight a_L a_L_wants : Nat} {Z_served : Nat → Int32} {Z_sums : Nat → Int32} {F_glow : Int32} {F_spotCount : Int32} {F_pointCount : Int32} {F_wallCount : Int32} {F_table : Nat → Int32} {F_spots : Nat → Int32} {F_points : Nat → Int32} {F_walls : Nat → Int32} {F_across : Nat → Int32} {F_bareLight : Nat → Int32} {L_hung : Int32} {L_dead : Int32} {L_standing : Int32} {L_wants : Nat → Int32} {p2 : Int32} {p3 : Int32} {k7 : (Nat → Int32) → Int32 → Option ((Nat → Int32) × (Nat → Int32))} {u_Z_served : Nat → Int32} {u_Z_sums : Nat → Int32} (C0 : kC p s m args meth c D (kTY cI cC cZ) cX4_weigh none 6 RX4 A) (hk7 : ∀ (Z_served_k : Nat → Int32) (p3_k : Int32), k7 Z_served_k p3_k = some (u_Z_served, u_Z_sums) → ∀ (H : Heap) (locs : List Loc), va_P D vwCl (WD13 cI cC cZ a_Z a_Z_served a_Z_sums a_F a_F_table a_F_spots a_F_points a_F_walls a_F_across a_F_bareLight a_L a_L_wants Z_served_k Z_sums F_glow F_spotCount F_pointCount F_wallCount F_table F_spots F_points F_walls F_across F_bareLight L_hung L_dead L_standing L_wants) H → va_D A (WD13 cI cC cZ a_Z a_Z_served a_Z_sums a_F a_F_table a_F_spots a_F_points a_F_walls a_F_across a_F_bareLight a_L a_L_wants Z_served_k Z_sums F_glow F_spotCount F_pointCount F_wallCount F_table F_spots F_points F_walls F_across F_bareLight L_hung L_dead L_standing L_wants) → va_S A s.heap H locs → ∀ ls : Array Slot, lv_has ls 6 [(0, .ref a_Z), (1, .ref a_L), (2, .int p2), (3, .int p3_k)] → W p l e rm_X4_weigh s m args below meth c H locs 0 0 (MQ below (kQV D (kTY cI cC cZ) A (WD13 cI cC cZ a_Z a_Z_served a_Z_sums a_F a_F_table a_F_spots a_F_points a_F_walls a_F_across a_F_bareLight a_L a_L_wants u_Z_served u_Z_sums F_glow F_spotCount F_pointCount F_wallCount F_table F_spots F_points F_walls F_across F_bareLight L_hung L_dead L_standing L_wants)) args s 0 0 A) (F0 m 7 ls [])) (h : bk_X4_weigh_7 k7 Z_sums F_glow F_spotCount F_pointCount F_across F_bareLight L_standing L_wants p2 Z_served p3 = some (u_Z_served, u_Z_sums)) {H : Heap} {locs : List Loc} (hP : va_P D vwCl (WD13 cI cC cZ a_Z a_Z_served a_Z_sums a_F a_F_table a_F_spots a_F_points a_F_walls a_F_across a_F_bareLight a_L a_L_wants Z_served Z_sums F_glow F_spotCount F_pointCount F_wallCount F_table F_spots F_points F_walls F_across F_bareLight L_hung L_dead L_standing L_wants) H) (hD : va_D A (WD13 cI cC cZ a_Z a_Z_served a_Z_sums a_F a_F_table a_F_spots a_F_points a_F_walls a_F_across a_F_bareLight a_L a_L_wants Z_served Z_sums F_glow F_spotCount F_pointCount F_wallCount F_table F_spots F_points F_walls F_across F_bareLight L_hung L_dead L_standing L_wants)) (hS : va_S A s.heap H locs) {ls : Array Slot} (hl : lv_has ls 6 [(0, .ref a_Z), (1, .ref a_L), (2, .int p2), (3, .int p3)]) : W p l e rm_X4_weigh s m args below meth c H locs 0 0 (MQ below (kQV D (kTY cI cC cZ) A (WD13 cI cC cZ a_Z a_Z_served a_Z_sums a_F a_F_table a_F_spots a_F_points a_F_walls a_F_across a_F_bareLight a_L a_L_wants u_Z_served u_Z_sums F_glow F_spotCount F_pointCount F_wallCount F_table F_spots F_points F_walls F_across F_bareLight L_hung L_dead L_standing L_wants)) args s 0 0 A) (F0 m 7 ls []) := by
  obtain ⟨hx, hb, hr, hml, hown, hts, hK, hN, hA, hlocks, hF⟩ := id C0
  unfold bk_X4_weigh_7 at h
  refine lv_iload_n hx hb dX4_weigh_7 rfl (lv_at hl 3 rfl) ?_
  refine lv_iload_n hx hb dX4_weigh_8 rfl (lv_at hl 2 rfl) ?_
  refine lv_icmp_ge (tgt := 25) hx hb dX4_weigh_9 (by decide) (fun c1 => ?_) (fun c1 => ?_)
  · have h := oc_t c1 h
    refine lv_iconst (v := (0 : Int32)) hx hb dX4_weigh_25 (by decide) ?_
    refine lv_istore_n (lv' := [(3, .int (0 : Int32)), (0, .ref a_Z), (1, .ref a_L), (2, .int p2)]) hx hb dX4_weigh_26 rfl hl (by decide) rfl (fun ls hl => ?_)
    exact wl_X4_weigh_27 C0  _ _ _ _ h _ _ hP hD hS _ (lv_sub hl [1, 2, 3, 0] rfl)
  · have h := oc_f c1 h
    refine lv_aload_n hx hb dX4_weigh_12 rfl (lv_at hl 0 rfl) ?_
    refine va_get (D := D) (ci := 4) (v := .ref a_Z_served) (C := RX4) (T := TX4) (N := 3) hx hb hts inlX4 hown hK hP 0 rfl rfl 1 (by decide) (hts _ kw_77) (fun _ h9 => h9) rfl dX4_weigh_13 ?_
    refine lv_iload_n hx hb dX4_weigh_16 rfl (lv_at hl 3 rfl) ?_
    refine lv_iconst (v := (0 : Int32)) hx hb dX4_weigh_17 (by decide) ?_
    obtain ⟨hb2, h⟩ := oc_else h
    refine va_iast hx hb hK hP hD hS 1 0 rfl rfl hb2 dX4_weigh_18 (fun H locs hP hD hS => ?_)
    have hP : va_P D vwCl (WD13 cI cC cZ a_Z a_Z_served a_Z_sums a_F a_F_table a_F_spots a_F_points a_F_walls a_F_across a_F_bareLight a_L a_L_wants (upd Z_served (Int32.toNatClampNeg p3) (0 : Int32)) Z_sums F_glow F_spotCount F_pointCount F_wallCount F_table F_spots F_points F_walls F_across F_bareLight L_hung L_dead L_standing L_wants) H := hP
    have hD : va_D A (WD13 cI cC cZ a_Z a_Z_served a_Z_sums a_F a_F_table a_F_spots a_F_points a_F_walls a_F_across a_F_bareLight a_L a_L_wants (upd Z_served (Int32.toNatClampNeg p3) (0 : Int32)) Z_sums F_glow F_spotCount F_pointCount F_wallCount F_table F_spots F_points F_walls F_across F_bareLight L_hung L_dead L_standing L_wants) := hD
    obtain ⟨t3, e_t3⟩ : ∃ y : Int32, y = p3 + (1 : Int32) := ⟨_, rfl⟩
    have h := oc_nm e_t3 h
    refine lv_iinc (v := t3) (lv' := [(3, .int t3), (0, .ref a_Z), (1, .ref a_L), (2, .int p2)]) hx hb dX4_weigh_19 hl (k := 3) rfl (by rw [e_t3]; rfl) (by decide) rfl (fun ls hl => ?_)
    refine lv_goto (tgt := 7) hx hb dX4_weigh_22 (by decide) ?_
    exact hk7 _ _ h _ _ hP hD hS _ (lv_sub hl [1, 2, 3, 0] rfl)
noncomputable def lp_X4_weigh_7  (Z_sums : Nat → Int32) (F_glow : Int32) (F_spotCount : Int32) (F_pointCount : Int32) (F_across : Nat → Int32) (F_bareLight : Nat → Int32) (L_standing : Int32) (L_wants : Nat → Int32) (p2 : Int32) (n : Nat) : (Nat → Int32) → Int32 → Option ((Nat → Int32) × (Nat → Int32)) := Nat.rec (motive := fun _ => (Nat → Int32) → Int32 → Option ((Nat → Int32) × (Nat → Int32))) (fun _ _ => none) (fun _ ih => bk_X4_weigh_7  ih Z_sums F_glow F_spotCount F_pointCount F_across F_bareLight L_standing L_wants p2) n
set_option maxHeartbeats 4000000 in
set_option maxRecDepth 100000 in
theorem wl_X4_weigh_7 {p : Program} {l : Launch} {e : Env} {s : State} {m : MethodId} {args : Array Value} {below : List Frame} {meth : Method} {c : Code} {D : va_G} {cI cC cZ : ClassId} {A : Nat → Prop} {a_Z a_Z_served a_Z_sums a_F a_F_table a_F_spots a_F_points a_F_walls a_F_across a_F_bareLight a_L a_L_wants : Nat} {Z_sums : Nat → Int32} {F_glow : Int32} {F_spotCount : Int32} {F_pointCount : Int32} {F_wallCount : Int32} {F_table : Nat → Int32} {F_spots : Nat → Int32} {F_points : Nat → Int32} {F_walls : Nat → Int32} {F_across : Nat → Int32} {F_bareLight : Nat → Int32} {L_hung : Int32} {L_dead : Int32} {L_standing : Int32} {L_wants : Nat → Int32} {p2 : Int32}  {u_Z_served : Nat → Int32} {u_Z_sums : Nat → Int32} (C0 : kC p s m args meth c D (kTY cI cC cZ) cX4_weigh none 6 RX4 A)  : ∀ (n : Nat) (Z_served : Nat → Int32) (p3 : Int32), lp_X4_weigh_7  Z_sums F_glow F_spotCount F_pointCount F_across F_bareLight L_standing L_wants p2 n Z_served p3 = some (u_Z_served, u_Z_sums) → ∀ (H : Heap) (locs : List Loc), va_P D vwCl (WD13 cI cC cZ a_Z a_Z_served a_Z_sums a_F a_F_table a_F_spots a_F_points a_F_walls a_F_across a_F_bareLight a_L a_L_wants Z_served Z_sums F_glow F_spotCount F_pointCount F_wallCount F_table F_spots F_points F_walls F_across F_bareLight L_hung L_dead L_standing L_wants) H → va_D A (WD13 cI cC cZ a_Z a_Z_served a_Z_sums a_F a_F_table a_F_spots a_F_points a_F_walls a_F_across a_F_bareLight a_L a_L_wants Z_served Z_sums F_glow F_spotCount F_pointCount F_wallCount F_table F_spots F_points F_walls F_across F_bareLight L_hung L_dead L_standing L_wants) → va_S A s.heap H locs → ∀ ls : Array Slot, lv_has ls 6 [(0, .ref a_Z), (1, .ref a_L), (2, .int p2), (3, .int p3)] → W p l e rm_X4_weigh s m args below meth c H locs 0 0 (MQ below (kQV D (kTY cI cC cZ) A (WD13 cI cC cZ a_Z a_Z_served a_Z_sums a_F a_F_table a_F_spots a_F_points a_F_walls a_F_across a_F_bareLight a_L a_L_wants u_Z_served u_Z_sums F_glow F_spotCount F_pointCount F_wallCount F_table F_spots F_points F_walls F_across F_bareLight L_hung L_dead L_standing L_wants)) args s 0 0 A) (F0 m 7 ls []) := by
  intro n
  induction n with
  | zero => intro Z_served p3 h; cases (show (none : Option ((Nat → Int32) × (Nat → Int32))) = some _ from h)
  | succ n ih =>
    intro Z_served p3 h H locs hP hD hS ls hl
    exact wk_X4_weigh_7 C0  (fun Z_served p3 h H locs hP hD hS ls hl => ih Z_served p3 h H locs hP hD hS ls hl) (show bk_X4_weigh_7  (lp_X4_weigh_7  Z_sums F_glow F_spotCount F_pointCount F_across F_bareLight L_standing L_wants p2 n) Z_sums F_glow F_spotCount F_pointCount F_across F_bareLight L_standing L_wants p2 Z_served p3 = some _ from h) hP hD hS hl
noncomputable def f_X4_weigh (Z_served : Nat → Int32) (Z_sums : Nat → Int32) (F_glow : Int32) (F_spotCount : Int32) (F_pointCount : Int32) (F_across : Nat → Int32) (F_bareLight : Nat → Int32) (L_standing : Int32) (L_wants : Nat → Int32)  : Option ((Nat → Int32) × (Nat → Int32)) := (f_X4_setCount F_spotCount).bind (fun r2 => lp_X4_weigh_7  Z_sums F_glow F_spotCount F_pointCount F_across F_bareLight L_standing L_wants r2 1000 Z_served (0 : Int32))
set_option maxHeartbeats 4000000 in
set_option maxRecDepth 100000 in
theorem c_X4_weigh (l : Launch) (D : va_G) (cI cC cZ : ClassId) (a_Z a_Z_served a_Z_sums a_F a_F_table a_F_spots a_F_points a_F_walls a_F_across a_F_bareLight a_L a_L_wants : Nat) (sz : Nat) (Z_served : Nat → Int32) (Z_sums : Nat → Int32) (F_glow : Int32) (F_spotCount : Int32) (F_pointCount : Int32) (F_wallCount : Int32) (F_table : Nat → Int32) (F_spots : Nat → Int32) (F_points : Nat → Int32) (F_walls : Nat → Int32) (F_across : Nat → Int32) (F_bareLight : Nat → Int32) (L_hung : Int32) (L_dead : Int32) (L_standing : Int32) (L_wants : Nat → Int32) (u_Z_served : Nat → Int32) (u_Z_sums : Nat → Int32) (hf : f_X4_weigh Z_served Z_sums F_glow F_spotCount F_pointCount F_across F_bareLight L_standing L_wants = some (u_Z_served, u_Z_sums)) : kMet l yX4_weigh cX4_weigh 6 none rm_X4_weigh D (kTY cI cC cZ) [.ref a_Z, .ref a_L] (WD13 cI cC cZ a_Z a_Z_served a_Z_sums a_F a_F_table a_F_spots a_F_points a_F_walls a_F_across a_F_bareLight a_L a_L_wants Z_served Z_sums F_glow F_spotCount F_pointCount F_wallCount F_table F_spots F_points F_walls F_across F_bareLight L_hung L_dead L_standing L_wants) sz (kQV D (kTY cI cC cZ) (va_A (WD13 cI cC cZ a_Z a_Z_served a_Z_sums a_F a_F_table a_F_spots a_F_points a_F_walls a_F_across a_F_bareLight a_L a_L_wants Z_served Z_sums F_glow F_spotCount F_pointCount F_wallCount F_table F_spots F_points F_walls F_across F_bareLight L_hung L_dead L_standing L_wants) sz) (WD13 cI cC cZ a_Z a_Z_served a_Z_sums a_F a_F_table a_F_spots a_F_points a_F_walls a_F_across a_F_bareLight a_L a_L_wants u_Z_served u_Z_sums F_glow F_spotCount F_pointCount F_wallCount F_table F_spots F_points F_walls F_across F_bareLight L_hung L_dead L_standing L_wants)) := by
  refine kEnter (lv := [(0, .ref a_Z), (1, .ref a_L)]) (own := RX4) (by decide) rfl (Nat.le_of_ble_eq_true rfl) rfl ?_
  intro p e s m below meth c hsz C0 hP hD hS ls hl
  generalize (va_A (WD13 cI cC cZ a_Z a_Z_served a_Z_sums a_F a_F_table a_F_spots a_F_points a_F_walls a_F_across a_F_bareLight a_L a_L_wants Z_served Z_sums F_glow F_spotCount F_pointCount F_wallCount F_table F_spots F_points F_walls F_across F_bareLight L_hung L_dead L_standing L_wants) sz) = A at C0 hD hS ⊢
  clear hsz hS
  obtain ⟨H, hHs⟩ : ∃ H : Heap, H = s.heap := ⟨_, rfl⟩
  have hS : va_S A s.heap H [] := by rw [hHs]; exact va_S.rf
  rw [← hHs] at hP ⊢
  obtain ⟨hx, hb, hr, hml, hown, hts, hK, hN, hA, hlocks, hF⟩ := id C0
  have h := hf
  unfold f_X4_weigh at h
  refine lv_aload_n hx hb dX4_weigh_0 rfl (lv_at hl 0 rfl) ?_
  obtain ⟨r2, hc1, h⟩ := oc_bind h
  refine kro_i (wc := (WD12 cI cC cZ a_Z a_Z_served a_Z_sums a_F a_F_table a_F_spots a_F_points a_F_walls a_F_across a_F_bareLight Z_served Z_sums F_glow F_spotCount F_pointCount F_wallCount F_table F_spots F_points F_walls F_across F_bareLight)) C0 hP hD hS [0, 1, 2, 3, 4, 5, 6, 7, 8, 9] rfl (kV (n := 0) (As := []) (rest := []) (wc := (WD12 cI cC cZ a_Z a_Z_served a_Z_sums a_F a_F_table a_F_spots a_F_points a_F_walls a_F_across a_F_bareLight Z_served Z_sums F_glow F_spotCount F_pointCount F_wallCount F_table F_spots F_points F_walls F_across F_bareLight)) (C := RX4) C0 hP hD hS [0, 1, 2, 3, 4, 5, 6, 7, 8, 9] rfl (by decide) (c_X4_setCount l D cI cC cZ a_Z a_Z_served a_Z_sums a_F a_F_table a_F_spots a_F_points a_F_walls a_F_across a_F_bareLight H.size Z_served Z_sums F_glow F_spotCount F_pointCount F_wallCount F_table F_spots F_points F_walls F_across F_bareLight  r2 hc1) kw_334 kw_331 kw_332 kw_333 kw_38 (by decide +kernel) (by decide) rfl rfl rfl hl.1 rfl (Nat.le_of_ble_eq_true rfl) ⟨Nat.zero_le _, Nat.zero_le _⟩ dX4_weigh_1) (fun H locs hP hS => ?_)
  refine lv_istore_n (lv' := [(2, .int r2), (0, .ref a_Z), (1, .ref a_L)]) hx hb dX4_weigh_4 rfl hl (by decide) rfl (fun ls hl => ?_)
  refine lv_iconst (v := (0 : Int32)) hx hb dX4_weigh_5 (by decide) ?_
  refine lv_istore_n (lv' := [(3, .int (0 : Int32)), (2, .int r2), (0, .ref a_Z), (1, .ref a_L)]) hx hb dX4_weigh_6 rfl hl (by decide) rfl (fun ls hl => ?_)
  exact wl_X4_weigh_7 C0  _ _ _ h _ _ hP hD hS _ (lv_sub hl [2, 3, 1, 0] rfl)
abbrev rm_X4_servedBy : Room := { frames := 0, cells := 0, slots := 0, locals := 0 }
noncomputable def f_X4_servedBy (Z_served : Nat → Int32) (p1 : Int32) : Option (Int32) := if p1 < 0 then (some (0 : Int32)) else (if p1 < (256 : Int32) then (if (p1 < 0 ∨ 256 ≤ Int32.toNatClampNeg p1) then none else (some (Z_served (Int32.toNatClampNeg p1)))) else (some (0 : Int32)))
set_option maxHeartbeats 4000000 in
set_option maxRecDepth 100000 in
theorem c_X4_servedBy (l : Launch) (D : va_G) (cI cC cZ : ClassId) (a_Z a_Z_served a_Z_sums a_F a_F_table a_F_spots a_F_points a_F_walls a_F_across a_F_bareLight : Nat) (sz : Nat) (Z_served : Nat → Int32) (Z_sums : Nat → Int32) (F_glow : Int32) (F_spotCount : Int32) (F_pointCount : Int32) (F_wallCount : Int32) (F_table : Nat → Int32) (F_spots : Nat → Int32) (F_points : Nat → Int32) (F_walls : Nat → Int32) (F_across : Nat → Int32) (F_bareLight : Nat → Int32) (p1 : Int32) (rr : Int32) (hf : f_X4_servedBy Z_served p1 = some rr) : kMet l yX4_servedBy cX4_servedBy 2 (some .int) rm_X4_servedBy D (kTY cI cC cZ) [.ref a_Z, .int p1] (WD12 cI cC cZ a_Z a_Z_served a_Z_sums a_F a_F_table a_F_spots a_F_points a_F_walls a_F_across a_F_bareLight Z_served Z_sums F_glow F_spotCount F_pointCount F_wallCount F_table F_spots F_points F_walls F_across F_bareLight) sz (kQI D (kTY cI cC cZ) (va_A (WD12 cI cC cZ a_Z a_Z_served a_Z_sums a_F a_F_table a_F_spots a_F_points a_F_walls a_F_across a_F_bareLight Z_served Z_sums F_glow F_spotCount F_pointCount F_wallCount F_table F_spots F_points F_walls F_across F_bareLight) sz) rr (WD12 cI cC cZ a_Z a_Z_served a_Z_sums a_F a_F_table a_F_spots a_F_points a_F_walls a_F_across a_F_bareLight Z_served Z_sums F_glow F_spotCount F_pointCount F_wallCount F_table F_spots F_points F_walls F_across F_bareLight)) := by
  refine kEnter (lv := [(0, .ref a_Z), (1, .int p1)]) (own := RX4) (by decide) rfl (Nat.le_of_ble_eq_true rfl) rfl ?_
  intro p e s m below meth c hsz C0 hP hD hS ls hl
  generalize (va_A (WD12 cI cC cZ a_Z a_Z_served a_Z_sums a_F a_F_table a_F_spots a_F_points a_F_walls a_F_across a_F_bareLight Z_served Z_sums F_glow F_spotCount F_pointCount F_wallCount F_table F_spots F_points F_walls F_across F_bareLight) sz) = A at C0 hD hS ⊢
  clear hsz hS
  obtain ⟨H, hHs⟩ : ∃ H : Heap, H = s.heap := ⟨_, rfl⟩
  have hS : va_S A s.heap H [] := by rw [hHs]; exact va_S.rf
  rw [← hHs] at hP ⊢
  obtain ⟨hx, hb, hr, hml, hown, hts, hK, hN, hA, hlocks, hF⟩ := id C0
  have h := hf
  unfold f_X4_servedBy at h
  refine lv_iload_n hx hb dX4_servedBy_0 rfl (lv_at hl 1 rfl) ?_
  refine lv_if_lt (tgt := 11) hx hb dX4_servedBy_1 (by decide) (fun c1 => ?_) (fun c1 => ?_)
  · have h := oc_t c1 h
    refine lv_iconst (v := (0 : Int32)) hx hb dX4_servedBy_11 (by decide) ?_
    refine lv_goto (tgt := 21) hx hb dX4_servedBy_12 (by decide) ?_
    cases h
    exact kret_i C0 hP hD hS rfl dX4_servedBy_21
  · have h := oc_f c1 h
    refine lv_iload_n hx hb dX4_servedBy_4 rfl (lv_at hl 1 rfl) ?_
    refine lv_sipush (v := (256 : Int32)) hx hb dX4_servedBy_5 (by decide) ?_
    refine lv_icmp_lt (tgt := 15) hx hb dX4_servedBy_8 (by decide) (fun c2 => ?_) (fun c2 => ?_)
    · have h := oc_t c2 h
      refine lv_aload_n hx hb dX4_servedBy_15 rfl (lv_at hl 0 rfl) ?_
      refine va_get (D := D) (ci := 4) (v := .ref a_Z_served) (C := RX4) (T := TX4) (N := 3) hx hb hts inlX4 hown hK hP 0 rfl rfl 1 (by decide) (hts _ kw_77) (fun _ h9 => h9) rfl dX4_servedBy_16 ?_
      refine lv_iload_n hx hb dX4_servedBy_19 rfl (lv_at hl 1 rfl) ?_
      obtain ⟨hb3, h⟩ := oc_else h
      refine va_iald hx hb hK hP 1 0 rfl rfl hb3 dX4_servedBy_20 ?_
      cases h
      exact kret_i C0 hP hD hS rfl dX4_servedBy_21
    · have h := oc_f c2 h
      refine lv_iconst (v := (0 : Int32)) hx hb dX4_servedBy_11 (by decide) ?_
      refine lv_goto (tgt := 21) hx hb dX4_servedBy_12 (by decide) ?_
      cases h
      exact kret_i C0 hP hD hS rfl dX4_servedBy_21
abbrev rm_X4_servesAll : Room := { frames := 1, cells := 0, slots := 0, locals := 21 }
noncomputable def f_X4_servesAll (Z_served : Nat → Int32) (F_pointCount : Int32) (p1 : Int32) : Option (Int32) := (f_X4_servedBy Z_served p1).bind (fun r2 => if r2 = (((1 : Int32) <<< (F_pointCount &&& 31)) - (1 : Int32)) then (some (1 : Int32)) else (some (0 : Int32)))
set_option maxHeartbeats 4000000 in
set_option maxRecDepth 100000 in
theorem c_X4_servesAll (l : Launch) (D : va_G) (cI cC cZ : ClassId) (a_Z a_Z_served a_Z_sums a_F a_F_table a_F_spots a_F_points a_F_walls a_F_across a_F_bareLight : Nat) (sz : Nat) (Z_served : Nat → Int32) (Z_sums : Nat → Int32) (F_glow : Int32) (F_spotCount : Int32) (F_pointCount : Int32) (F_wallCount : Int32) (F_table : Nat → Int32) (F_spots : Nat → Int32) (F_points : Nat → Int32) (F_walls : Nat → Int32) (F_across : Nat → Int32) (F_bareLight : Nat → Int32) (p1 : Int32) (rr : Int32) (hf : f_X4_servesAll Z_served F_pointCount p1 = some rr) : kMet l yX4_servesAll cX4_servesAll 2 (some .boolean) rm_X4_servesAll D (kTY cI cC cZ) [.ref a_Z, .int p1] (WD12 cI cC cZ a_Z a_Z_served a_Z_sums a_F a_F_table a_F_spots a_F_points a_F_walls a_F_across a_F_bareLight Z_served Z_sums F_glow F_spotCount F_pointCount F_wallCount F_table F_spots F_points F_walls F_across F_bareLight) sz (kQI D (kTY cI cC cZ) (va_A (WD12 cI cC cZ a_Z a_Z_served a_Z_sums a_F a_F_table a_F_spots a_F_points a_F_walls a_F_across a_F_bareLight Z_served Z_sums F_glow F_spotCount F_pointCount F_wallCount F_table F_spots F_points F_walls F_across F_bareLight) sz) rr (WD12 cI cC cZ a_Z a_Z_served a_Z_sums a_F a_F_table a_F_spots a_F_points a_F_walls a_F_across a_F_bareLight Z_served Z_sums F_glow F_spotCount F_pointCount F_wallCount F_table F_spots F_points F_walls F_across F_bareLight)) := by
  refine kEnter (lv := [(0, .ref a_Z), (1, .int p1)]) (own := RX4) (by decide) rfl (Nat.le_of_ble_eq_true rfl) rfl ?_
  intro p e s m below meth c hsz C0 hP hD hS ls hl
  generalize (va_A (WD12 cI cC cZ a_Z a_Z_served a_Z_sums a_F a_F_table a_F_spots a_F_points a_F_walls a_F_across a_F_bareLight Z_served Z_sums F_glow F_spotCount F_pointCount F_wallCount F_table F_spots F_points F_walls F_across F_bareLight) sz) = A at C0 hD hS ⊢
  clear hsz hS
  obtain ⟨H, hHs⟩ : ∃ H : Heap, H = s.heap := ⟨_, rfl⟩
  have hS : va_S A s.heap H [] := by rw [hHs]; exact va_S.rf
  rw [← hHs] at hP ⊢
  obtain ⟨hx, hb, hr, hml, hown, hts, hK, hN, hA, hlocks, hF⟩ := id C0
  have h := hf
  unfold f_X4_servesAll at h
  refine lv_aload_n hx hb dX4_servesAll_0 rfl (lv_at hl 0 rfl) ?_
  refine lv_iload_n hx hb dX4_servesAll_1 rfl (lv_at hl 1 rfl) ?_
  obtain ⟨r2, hc1, h⟩ := oc_bind h
  refine kro_i (wc := (WD12 cI cC cZ a_Z a_Z_served a_Z_sums a_F a_F_table a_F_spots a_F_points a_F_walls a_F_across a_F_bareLight Z_served Z_sums F_glow F_spotCount F_pointCount F_wallCount F_table F_spots F_points F_walls F_across F_bareLight)) C0 hP hD hS [0, 1, 2, 3, 4, 5, 6, 7, 8, 9] rfl (kV (n := 1) (As := [.int p1]) (rest := []) (wc := (WD12 cI cC cZ a_Z a_Z_served a_Z_sums a_F a_F_table a_F_spots a_F_points a_F_walls a_F_across a_F_bareLight Z_served Z_sums F_glow F_spotCount F_pointCount F_wallCount F_table F_spots F_points F_walls F_across F_bareLight)) (C := RX4) C0 hP hD hS [0, 1, 2, 3, 4, 5, 6, 7, 8, 9] rfl (by decide) (c_X4_servedBy l D cI cC cZ a_Z a_Z_served a_Z_sums a_F a_F_table a_F_spots a_F_points a_F_walls a_F_across a_F_bareLight H.size Z_served Z_sums F_glow F_spotCount F_pointCount F_wallCount F_table F_spots F_points F_walls F_across F_bareLight p1 r2 hc1) kw_346 kw_343 kw_344 kw_345 kw_38 (by decide +kernel) (by decide) rfl rfl rfl hl.1 rfl (Nat.le_of_ble_eq_true rfl) ⟨Nat.zero_le _, Nat.zero_le _⟩ dX4_servesAll_2) (fun H locs hP hS => ?_)
  refine lv_iconst (v := (1 : Int32)) hx hb dX4_servesAll_5 (by decide) ?_
  refine lv_aload_n hx hb dX4_servesAll_6 rfl (lv_at hl 0 rfl) ?_
  refine va_get (D := D) (ci := 4) (v := .ref a_F) (C := RX4) (T := TX4) (N := 3) hx hb hts inlX4 hown hK hP 0 rfl rfl 0 (by decide) (hts _ kw_79) (fun _ h9 => h9) rfl dX4_servesAll_7 ?_
  refine va_getN (D := D) (ci := 1) (v := .int F_pointCount) (C := RX1) (T := TX1) (N := 10) hx hb hts inlX1 hown hK hP 3 rfl rfl 8 (by decide) (va_Nw.use rfl (ks_f6 hN)) (fun _ h9 => h9) rfl dX4_servesAll_10 ?_
  refine lv_ishl hx hb dX4_servesAll_13 ?_
  refine lv_iconst (v := (1 : Int32)) hx hb dX4_servesAll_14 (by decide) ?_
  refine lv_isub hx hb dX4_servesAll_15 ?_
  refine lv_icmp_ne (tgt := 23) hx hb dX4_servesAll_16 (by decide) (fun c3 => ?_) (fun c3 => ?_)
  · have h := oc_f c3 h
    refine lv_iconst (v := (0 : Int32)) hx hb dX4_servesAll_23 (by decide) ?_
    cases h
    exact kret_i C0 hP hD hS (by decide) dX4_servesAll_24
  · have h := oc_t c3 h
    refine lv_iconst (v := (1 : Int32)) hx hb dX4_servesAll_19 (by decide) ?_
    refine lv_goto (tgt := 24) hx hb dX4_servesAll_20 (by decide) ?_
    cases h
    exact kret_i C0 hP hD hS (by decide) dX4_servesAll_24
abbrev rm_X4_servesWithoutAnyOne : Room := { frames := 2, cells := 0, slots := 0, locals := 42 }
noncomputable def bk_X4_servesWithoutAnyOne_2 (k2 : Int32 → Option (Int32)) (Z_served : Nat → Int32) (F_spotCount : Int32) (F_pointCount : Int32) (p1 : Int32) (p2 : Int32) : Option (Int32) := if F_spotCount ≤ p2 then (some (1 : Int32)) else (if ((p1 >>> (p2 &&& 31)) &&& (1 : Int32)) = 0 then (nm_ (p2 + (1 : Int32)) (fun t3 => k2 t3)) else ((f_X4_servesAll Z_served F_pointCount (p1 &&& (((1 : Int32) <<< (p2 &&& 31)) ^^^ (-1 : Int32)))).bind (fun r5 => if r5 = 0 then (some (0 : Int32)) else (nm_ (p2 + (1 : Int32)) (fun t7 => k2 t7)))))
set_option maxHeartbeats 4000000 in
set_option maxRecDepth 100000 in
theorem wk_X4_servesWithoutAnyOne_2 {p : Program} {l : Launch} {e : Env} {s : State} {m : MethodId} {args : Array Value} {below : List Frame} {meth : Method} {c : Code} {D : va_G} {cI cC cZ : ClassId} {A : Nat → Prop} {a_Z a_Z_served a_Z_sums a_F a_F_table a_F_spots a_F_points a_F_walls a_F_across a_F_bareLight : Nat} {Z_served : Nat → Int32} {Z_sums : Nat → Int32} {F_glow : Int32} {F_spotCount : Int32} {F_pointCount : Int32} {F_wallCount : Int32} {F_table : Nat → Int32} {F_spots : Nat → Int32} {F_points : Nat → Int32} {F_walls : Nat → Int32} {F_across : Nat → Int32} {F_bareLight : Nat → Int32} {p1 : Int32} {p2 : Int32} {k2 : Int32 → Option (Int32)} {rr : Int32} (C0 : kC p s m args meth c D (kTY cI cC cZ) cX4_servesWithoutAnyOne (some .boolean) 3 RX4 A) (hk2 : ∀ (p2_k : Int32), k2 p2_k = some rr → ∀ (H : Heap) (locs : List Loc), va_P D vwCl (WD12 cI cC cZ a_Z a_Z_served a_Z_sums a_F a_F_table a_F_spots a_F_points a_F_walls a_F_across a_F_bareLight Z_served Z_sums F_glow F_spotCount F_pointCount F_wallCount F_table F_spots F_points F_walls F_across F_bareLight) H → va_D A (WD12 cI cC cZ a_Z a_Z_served a_Z_sums a_F a_F_table a_F_spots a_F_points a_F_walls a_F_across a_F_bareLight Z_served Z_sums F_glow F_spotCount F_pointCount F_wallCount F_table F_spots F_points F_walls F_across F_bareLight) → va_S A s.heap H locs → ∀ ls : Array Slot, lv_has ls 3 [(0, .ref a_Z), (1, .int p1), (2, .int p2_k)] → W p l e rm_X4_servesWithoutAnyOne s m args below meth c H locs 0 0 (MQ below (kQI D (kTY cI cC cZ) A rr (WD12 cI cC cZ a_Z a_Z_served a_Z_sums a_F a_F_table a_F_spots a_F_points a_F_walls a_F_across a_F_bareLight Z_served Z_sums F_glow F_spotCount F_pointCount F_wallCount F_table F_spots F_points F_walls F_across F_bareLight)) args s 0 0 A) (F0 m 2 ls [])) (h : bk_X4_servesWithoutAnyOne_2 k2 Z_served F_spotCount F_pointCount p1 p2 = some rr) {H : Heap} {locs : List Loc} (hP : va_P D vwCl (WD12 cI cC cZ a_Z a_Z_served a_Z_sums a_F a_F_table a_F_spots a_F_points a_F_walls a_F_across a_F_bareLight Z_served Z_sums F_glow F_spotCount F_pointCount F_wallCount F_table F_spots F_points F_walls F_across F_bareLight) H) (hD : va_D A (WD12 cI cC cZ a_Z a_Z_served a_Z_sums a_F a_F_table a_F_spots a_F_points a_F_walls a_F_across a_F_bareLight Z_served Z_sums F_glow F_spotCount F_pointCount F_wallCount F_table F_spots F_points F_walls F_across F_bareLight)) (hS : va_S A s.heap H locs) {ls : Array Slot} (hl : lv_has ls 3 [(0, .ref a_Z), (1, .int p1), (2, .int p2)]) : W p l e rm_X4_servesWithoutAnyOne s m args below meth c H locs 0 0 (MQ below (kQI D (kTY cI cC cZ) A rr (WD12 cI cC cZ a_Z a_Z_served a_Z_sums a_F a_F_table a_F_spots a_F_points a_F_walls a_F_across a_F_bareLight Z_served Z_sums F_glow F_spotCount F_pointCount F_wallCount F_table F_spots F_points F_walls F_across F_bareLight)) args s 0 0 A) (F0 m 2 ls []) := by
  obtain ⟨hx, hb, hr, hml, hown, hts, hK, hN, hA, hlocks, hF⟩ := id C0
  unfold bk_X4_servesWithoutAnyOne_2 at h
  refine lv_iload_n hx hb dX4_servesWithoutAnyOne_2 rfl (lv_at hl 2 rfl) ?_
  refine lv_aload_n hx hb dX4_servesWithoutAnyOne_3 rfl (lv_at hl 0 rfl) ?_
  refine va_get (D := D) (ci := 4) (v := .ref a_F) (C := RX4) (T := TX4) (N := 3) hx hb hts inlX4 hown hK hP 0 rfl rfl 0 (by decide) (hts _ kw_79) (fun _ h9 => h9) rfl dX4_servesWithoutAnyOne_4 ?_
  refine va_getN (D := D) (ci := 1) (v := .int F_spotCount) (C := RX1) (T := TX1) (N := 10) hx hb hts inlX1 hown hK hP 3 rfl rfl 7 (by decide) (va_Nw.use rfl (ks_f4 hN)) (fun _ h9 => h9) rfl dX4_servesWithoutAnyOne_7 ?_
  refine lv_icmp_ge (tgt := 43) hx hb dX4_servesWithoutAnyOne_10 (by decide) (fun c1 => ?_) (fun c1 => ?_)
  · have h := oc_t c1 h
    refine lv_iconst (v := (1 : Int32)) hx hb dX4_servesWithoutAnyOne_43 (by decide) ?_
    cases h
    exact kret_i C0 hP hD hS (by decide) dX4_servesWithoutAnyOne_44
  · have h := oc_f c1 h
    refine lv_iload_n hx hb dX4_servesWithoutAnyOne_13 rfl (lv_at hl 1 rfl) ?_
    refine lv_iload_n hx hb dX4_servesWithoutAnyOne_14 rfl (lv_at hl 2 rfl) ?_
    refine lv_ishr hx hb dX4_servesWithoutAnyOne_15 ?_
    refine lv_iconst (v := (1 : Int32)) hx hb dX4_servesWithoutAnyOne_16 (by decide) ?_
    refine lv_iand hx hb dX4_servesWithoutAnyOne_17 ?_
    refine lv_if_eq (tgt := 37) hx hb dX4_servesWithoutAnyOne_18 (by decide) (fun c2 => ?_) (fun c2 => ?_)
    · have h := oc_t c2 h
      obtain ⟨t3, e_t3⟩ : ∃ y : Int32, y = p2 + (1 : Int32) := ⟨_, rfl⟩
      have h := oc_nm e_t3 h
      refine lv_iinc (v := t3) (lv' := [(2, .int t3), (0, .ref a_Z), (1, .int p1)]) hx hb dX4_servesWithoutAnyOne_37 hl (k := 2) rfl (by rw [e_t3]; rfl) (by decide) rfl (fun ls hl => ?_)
      refine lv_goto (tgt := 2) hx hb dX4_servesWithoutAnyOne_40 (by decide) ?_
      exact hk2 _ h _ _ hP hD hS _ (lv_sub hl [1, 2, 0] rfl)
    · have h := oc_f c2 h
      refine lv_aload_n hx hb dX4_servesWithoutAnyOne_21 rfl (lv_at hl 0 rfl) ?_
      refine lv_iload_n hx hb dX4_servesWithoutAnyOne_22 rfl (lv_at hl 1 rfl) ?_
      refine lv_iconst (v := (1 : Int32)) hx hb dX4_servesWithoutAnyOne_23 (by decide) ?_
      refine lv_iload_n hx hb dX4_servesWithoutAnyOne_24 rfl (lv_at hl 2 rfl) ?_
      refine lv_ishl hx hb dX4_servesWithoutAnyOne_25 ?_
      refine lv_iconst (v := (-1 : Int32)) hx hb dX4_servesWithoutAnyOne_26 (by decide) ?_
      refine lv_ixor hx hb dX4_servesWithoutAnyOne_27 ?_
      refine lv_iand hx hb dX4_servesWithoutAnyOne_28 ?_
      obtain ⟨r5, hc4, h⟩ := oc_bind h
      refine kro_i (wc := (WD12 cI cC cZ a_Z a_Z_served a_Z_sums a_F a_F_table a_F_spots a_F_points a_F_walls a_F_across a_F_bareLight Z_served Z_sums F_glow F_spotCount F_pointCount F_wallCount F_table F_spots F_points F_walls F_across F_bareLight)) C0 hP hD hS [0, 1, 2, 3, 4, 5, 6, 7, 8, 9] rfl (kV (n := 1) (As := [.int (p1 &&& (((1 : Int32) <<< (p2 &&& 31)) ^^^ (-1 : Int32)))]) (rest := []) (wc := (WD12 cI cC cZ a_Z a_Z_served a_Z_sums a_F a_F_table a_F_spots a_F_points a_F_walls a_F_across a_F_bareLight Z_served Z_sums F_glow F_spotCount F_pointCount F_wallCount F_table F_spots F_points F_walls F_across F_bareLight)) (C := RX4) C0 hP hD hS [0, 1, 2, 3, 4, 5, 6, 7, 8, 9] rfl (by decide) (c_X4_servesAll l D cI cC cZ a_Z a_Z_served a_Z_sums a_F a_F_table a_F_spots a_F_points a_F_walls a_F_across a_F_bareLight H.size Z_served Z_sums F_glow F_spotCount F_pointCount F_wallCount F_table F_spots F_points F_walls F_across F_bareLight (p1 &&& (((1 : Int32) <<< (p2 &&& 31)) ^^^ (-1 : Int32))) r5 hc4) kw_523 kw_520 kw_521 kw_522 kw_38 (by decide +kernel) (by decide) rfl rfl rfl hl.1 rfl (Nat.le_of_ble_eq_true rfl) ⟨Nat.zero_le _, Nat.zero_le _⟩ dX4_servesWithoutAnyOne_29) (fun H locs hP hS => ?_)
      refine lv_if_ne (tgt := 37) hx hb dX4_servesWithoutAnyOne_32 (by decide) (fun c6 => ?_) (fun c6 => ?_)
      · have h := oc_f c6 h
        obtain ⟨t7, e_t7⟩ : ∃ y : Int32, y = p2 + (1 : Int32) := ⟨_, rfl⟩
        have h := oc_nm e_t7 h
        refine lv_iinc (v := t7) (lv' := [(2, .int t7), (0, .ref a_Z), (1, .int p1)]) hx hb dX4_servesWithoutAnyOne_37 hl (k := 2) rfl (by rw [e_t7]; rfl) (by decide) rfl (fun ls hl => ?_)
        refine lv_goto (tgt := 2) hx hb dX4_servesWithoutAnyOne_40 (by decide) ?_
        exact hk2 _ h _ _ hP hD hS _ (lv_sub hl [1, 2, 0] rfl)
      · have h := oc_t c6 h
        refine lv_iconst (v := (0 : Int32)) hx hb dX4_servesWithoutAnyOne_35 (by decide) ?_
        cases h
        exact kret_i C0 hP hD hS (by decide) dX4_servesWithoutAnyOne_36
noncomputable def lp_X4_servesWithoutAnyOne_2  (Z_served : Nat → Int32) (F_spotCount : Int32) (F_pointCount : Int32) (p1 : Int32) (n : Nat) : Int32 → Option (Int32) := Nat.rec (motive := fun _ => Int32 → Option (Int32)) (fun _ => none) (fun _ ih => bk_X4_servesWithoutAnyOne_2  ih Z_served F_spotCount F_pointCount p1) n
set_option maxHeartbeats 4000000 in
set_option maxRecDepth 100000 in
theorem wl_X4_servesWithoutAnyOne_2 {p : Program} {l : Launch} {e : Env} {s : State} {m : MethodId} {args : Array Value} {below : List Frame} {meth : Method} {c : Code} {D : va_G} {cI cC cZ : ClassId} {A : Nat → Prop} {a_Z a_Z_served a_Z_sums a_F a_F_table a_F_spots a_F_points a_F_walls a_F_across a_F_bareLight : Nat} {Z_served : Nat → Int32} {Z_sums : Nat → Int32} {F_glow : Int32} {F_spotCount : Int32} {F_pointCount : Int32} {F_wallCount : Int32} {F_table : Nat → Int32} {F_spots : Nat → Int32} {F_points : Nat → Int32} {F_walls : Nat → Int32} {F_across : Nat → Int32} {F_bareLight : Nat → Int32} {p1 : Int32}  {rr : Int32} (C0 : kC p s m args meth c D (kTY cI cC cZ) cX4_servesWithoutAnyOne (some .boolean) 3 RX4 A)  : ∀ (n : Nat) (p2 : Int32), lp_X4_servesWithoutAnyOne_2  Z_served F_spotCount F_pointCount p1 n p2 = some rr → ∀ (H : Heap) (locs : List Loc), va_P D vwCl (WD12 cI cC cZ a_Z a_Z_served a_Z_sums a_F a_F_table a_F_spots a_F_points a_F_walls a_F_across a_F_bareLight Z_served Z_sums F_glow F_spotCount F_pointCount F_wallCount F_table F_spots F_points F_walls F_across F_bareLight) H → va_D A (WD12 cI cC cZ a_Z a_Z_served a_Z_sums a_F a_F_table a_F_spots a_F_points a_F_walls a_F_across a_F_bareLight Z_served Z_sums F_glow F_spotCount F_pointCount F_wallCount F_table F_spots F_points F_walls F_across F_bareLight) → va_S A s.heap H locs → ∀ ls : Array Slot, lv_has ls 3 [(0, .ref a_Z), (1, .int p1), (2, .int p2)] → W p l e rm_X4_servesWithoutAnyOne s m args below meth c H locs 0 0 (MQ below (kQI D (kTY cI cC cZ) A rr (WD12 cI cC cZ a_Z a_Z_served a_Z_sums a_F a_F_table a_F_spots a_F_points a_F_walls a_F_across a_F_bareLight Z_served Z_sums F_glow F_spotCount F_pointCount F_wallCount F_table F_spots F_points F_walls F_across F_bareLight)) args s 0 0 A) (F0 m 2 ls []) := by
  intro n
  induction n with
  | zero => intro p2 h; cases (show (none : Option (Int32)) = some _ from h)
  | succ n ih =>
    intro p2 h H locs hP hD hS ls hl
    exact wk_X4_servesWithoutAnyOne_2 C0  (fun p2 h H locs hP hD hS ls hl => ih p2 h H locs hP hD hS ls hl) (show bk_X4_servesWithoutAnyOne_2  (lp_X4_servesWithoutAnyOne_2  Z_served F_spotCount F_pointCount p1 n) Z_served F_spotCount F_pointCount p1 p2 = some _ from h) hP hD hS hl
noncomputable def f_X4_servesWithoutAnyOne (Z_served : Nat → Int32) (F_spotCount : Int32) (F_pointCount : Int32) (p1 : Int32) : Option (Int32) := lp_X4_servesWithoutAnyOne_2  Z_served F_spotCount F_pointCount p1 1000 (0 : Int32)
set_option maxHeartbeats 4000000 in
set_option maxRecDepth 100000 in
theorem c_X4_servesWithoutAnyOne (l : Launch) (D : va_G) (cI cC cZ : ClassId) (a_Z a_Z_served a_Z_sums a_F a_F_table a_F_spots a_F_points a_F_walls a_F_across a_F_bareLight : Nat) (sz : Nat) (Z_served : Nat → Int32) (Z_sums : Nat → Int32) (F_glow : Int32) (F_spotCount : Int32) (F_pointCount : Int32) (F_wallCount : Int32) (F_table : Nat → Int32) (F_spots : Nat → Int32) (F_points : Nat → Int32) (F_walls : Nat → Int32) (F_across : Nat → Int32) (F_bareLight : Nat → Int32) (p1 : Int32) (rr : Int32) (hf : f_X4_servesWithoutAnyOne Z_served F_spotCount F_pointCount p1 = some rr) : kMet l yX4_servesWithoutAnyOne cX4_servesWithoutAnyOne 3 (some .boolean) rm_X4_servesWithoutAnyOne D (kTY cI cC cZ) [.ref a_Z, .int p1] (WD12 cI cC cZ a_Z a_Z_served a_Z_sums a_F a_F_table a_F_spots a_F_points a_F_walls a_F_across a_F_bareLight Z_served Z_sums F_glow F_spotCount F_pointCount F_wallCount F_table F_spots F_points F_walls F_across F_bareLight) sz (kQI D (kTY cI cC cZ) (va_A (WD12 cI cC cZ a_Z a_Z_served a_Z_sums a_F a_F_table a_F_spots a_F_points a_F_walls a_F_across a_F_bareLight Z_served Z_sums F_glow F_spotCount F_pointCount F_wallCount F_table F_spots F_points F_walls F_across F_bareLight) sz) rr (WD12 cI cC cZ a_Z a_Z_served a_Z_sums a_F a_F_table a_F_spots a_F_points a_F_walls a_F_across a_F_bareLight Z_served Z_sums F_glow F_spotCount F_pointCount F_wallCount F_table F_spots F_points F_walls F_across F_bareLight)) := by
  refine kEnter (lv := [(0, .ref a_Z), (1, .int p1)]) (own := RX4) (by decide) rfl (Nat.le_of_ble_eq_true rfl) rfl ?_
  intro p e s m below meth c hsz C0 hP hD hS ls hl
  generalize (va_A (WD12 cI cC cZ a_Z a_Z_served a_Z_sums a_F a_F_table a_F_spots a_F_points a_F_walls a_F_across a_F_bareLight Z_served Z_sums F_glow F_spotCount F_pointCount F_wallCount F_table F_spots F_points F_walls F_across F_bareLight) sz) = A at C0 hD hS ⊢
  clear hsz hS
  obtain ⟨H, hHs⟩ : ∃ H : Heap, H = s.heap := ⟨_, rfl⟩
  have hS : va_S A s.heap H [] := by rw [hHs]; exact va_S.rf
  rw [← hHs] at hP ⊢
  obtain ⟨hx, hb, hr, hml, hown, hts, hK, hN, hA, hlocks, hF⟩ := id C0
  have h := hf
  unfold f_X4_servesWithoutAnyOne at h
  refine lv_iconst (v := (0 : Int32)) hx hb dX4_servesWithoutAnyOne_0 (by decide) ?_
  refine lv_istore_n (lv' := [(2, .int (0 : Int32)), (0, .ref a_Z), (1, .int p1)]) hx hb dX4_servesWithoutAnyOne_1 rfl hl (by decide) rfl (fun ls hl => ?_)
  exact wl_X4_servesWithoutAnyOne_2 C0  _ _ h _ _ hP hD hS _ (lv_sub hl [1, 2, 0] rfl)
abbrev rm_X4_rankOf : Room := { frames := 3, cells := 0, slots := 0, locals := 68 }
noncomputable def f_X4_rankOf (F_spotCount : Int32) (F_spots : Nat → Int32) (p1 : Int32) (p2 : Int32) : Option (Int32) := (f_X1_priceOf F_spotCount F_spots p2).bind (fun r2 => if p1 = 0 then ((f_J6_bitCount p2).bind (fun r5 => some (r2 + ((100 : Int32) * r5)))) else (some (r2 + (0 : Int32))))
set_option maxHeartbeats 4000000 in
set_option maxRecDepth 100000 in
theorem c_X4_rankOf (l : Launch) (D : va_G) (cI cC cZ : ClassId) (a_Z a_Z_served a_Z_sums a_F a_F_table a_F_spots a_F_points a_F_walls a_F_across a_F_bareLight : Nat) (sz : Nat) (Z_served : Nat → Int32) (Z_sums : Nat → Int32) (F_glow : Int32) (F_spotCount : Int32) (F_pointCount : Int32) (F_wallCount : Int32) (F_table : Nat → Int32) (F_spots : Nat → Int32) (F_points : Nat → Int32) (F_walls : Nat → Int32) (F_across : Nat → Int32) (F_bareLight : Nat → Int32) (p1 : Int32) (p2 : Int32) (rr : Int32) (hf : f_X4_rankOf F_spotCount F_spots p1 p2 = some rr) : kMet l yX4_rankOf cX4_rankOf 3 (some .int) rm_X4_rankOf D (kTY cI cC cZ) [.ref a_Z, .int p1, .int p2] (WD12 cI cC cZ a_Z a_Z_served a_Z_sums a_F a_F_table a_F_spots a_F_points a_F_walls a_F_across a_F_bareLight Z_served Z_sums F_glow F_spotCount F_pointCount F_wallCount F_table F_spots F_points F_walls F_across F_bareLight) sz (kQI D (kTY cI cC cZ) (va_A (WD12 cI cC cZ a_Z a_Z_served a_Z_sums a_F a_F_table a_F_spots a_F_points a_F_walls a_F_across a_F_bareLight Z_served Z_sums F_glow F_spotCount F_pointCount F_wallCount F_table F_spots F_points F_walls F_across F_bareLight) sz) rr (WD12 cI cC cZ a_Z a_Z_served a_Z_sums a_F a_F_table a_F_spots a_F_points a_F_walls a_F_across a_F_bareLight Z_served Z_sums F_glow F_spotCount F_pointCount F_wallCount F_table F_spots F_points F_walls F_across F_bareLight)) := by
  refine kEnter (lv := [(0, .ref a_Z), (1, .int p1), (2, .int p2)]) (own := RX4) (by decide) rfl (Nat.le_of_ble_eq_true rfl) rfl ?_
  intro p e s m below meth c hsz C0 hP hD hS ls hl
  generalize (va_A (WD12 cI cC cZ a_Z a_Z_served a_Z_sums a_F a_F_table a_F_spots a_F_points a_F_walls a_F_across a_F_bareLight Z_served Z_sums F_glow F_spotCount F_pointCount F_wallCount F_table F_spots F_points F_walls F_across F_bareLight) sz) = A at C0 hD hS ⊢
  clear hsz hS
  obtain ⟨H, hHs⟩ : ∃ H : Heap, H = s.heap := ⟨_, rfl⟩
  have hS : va_S A s.heap H [] := by rw [hHs]; exact va_S.rf
  rw [← hHs] at hP ⊢
  obtain ⟨hx, hb, hr, hml, hown, hts, hK, hN, hA, hlocks, hF⟩ := id C0
  have h := hf
  unfold f_X4_rankOf at h
  refine lv_aload_n hx hb dX4_rankOf_0 rfl (lv_at hl 0 rfl) ?_
  refine va_get (D := D) (ci := 4) (v := .ref a_F) (C := RX4) (T := TX4) (N := 3) hx hb hts inlX4 hown hK hP 0 rfl rfl 0 (by decide) (hts _ kw_79) (fun _ h9 => h9) rfl dX4_rankOf_1 ?_
  refine lv_iload_n hx hb dX4_rankOf_4 rfl (lv_at hl 2 rfl) ?_
  obtain ⟨r2, hc1, h⟩ := oc_bind h
  refine kro_i (wc := (WD2 cI cC cZ a_F a_F_table a_F_spots a_F_points a_F_walls a_F_across a_F_bareLight F_glow F_spotCount F_pointCount F_wallCount F_table F_spots F_points F_walls F_across F_bareLight)) C0 hP hD hS [3, 4, 5, 6, 7, 8, 9] rfl (kVN (n := 1) (As := [.int p2]) (rest := []) (wc := (WD2 cI cC cZ a_F a_F_table a_F_spots a_F_points a_F_walls a_F_across a_F_bareLight F_glow F_spotCount F_pointCount F_wallCount F_table F_spots F_points F_walls F_across F_bareLight)) (C := RX1) C0 hP hD hS [3, 4, 5, 6, 7, 8, 9] rfl (by decide) (c_X1_priceOf l D cI cC cZ a_F a_F_table a_F_spots a_F_points a_F_walls a_F_across a_F_bareLight H.size F_glow F_spotCount F_pointCount F_wallCount F_table F_spots F_points F_walls F_across F_bareLight p2 r2 hc1) kw_349 (ks_m27 hN) kw_347 kw_348 kw_19 (by decide +kernel) (by decide) rfl rfl rfl hl.1 rfl (Nat.le_of_ble_eq_true rfl) ⟨Nat.zero_le _, Nat.zero_le _⟩ dX4_rankOf_5) (fun H locs hP hS => ?_)
  refine lv_iload_n hx hb dX4_rankOf_8 rfl (lv_at hl 1 rfl) ?_
  refine lv_if_ne (tgt := 22) hx hb dX4_rankOf_9 (by decide) (fun c3 => ?_) (fun c3 => ?_)
  · have h := oc_f c3 h
    refine lv_iconst (v := (0 : Int32)) hx hb dX4_rankOf_22 (by decide) ?_
    refine lv_iadd hx hb dX4_rankOf_23 ?_
    cases h
    exact kret_i C0 hP hD hS rfl dX4_rankOf_24
  · have h := oc_t c3 h
    refine lv_bipush (v := (100 : Int32)) hx hb dX4_rankOf_12 (by decide) ?_
    refine lv_iload_n hx hb dX4_rankOf_14 rfl (lv_at hl 2 rfl) ?_
    obtain ⟨r5, hc4, h⟩ := oc_bind h
    refine kro_i (wc := (WD0 cI cC cZ)) C0 hP hD hS [] rfl (kS (n := 1) (As := [.int p2]) (rest := [.int (100 : Int32), .int r2]) (wc := (WD0 cI cC cZ)) C0 hP hD hS [] rfl (by decide) (c_J6_bitCount l D cI cC cZ  H.size  p2 r5 hc4) kw_447 kw_532 kw_446 kw_418 (by decide +kernel) (by decide) rfl hl.1 rfl (Nat.le_of_ble_eq_true rfl) ⟨Nat.zero_le _, Nat.zero_le _⟩ dX4_rankOf_15) (fun H locs hP hS => ?_)
    refine lv_imul hx hb dX4_rankOf_18 ?_
    refine lv_goto (tgt := 23) hx hb dX4_rankOf_19 (by decide) ?_
    refine lv_iadd hx hb dX4_rankOf_23 ?_
    cases h
    exact kret_i C0 hP hD hS rfl dX4_rankOf_24
abbrev rm_X4_choose : Room := { frames := 4, cells := 0, slots := 0, locals := 90 }
noncomputable def bk_X4_choose_43 (k8 : Int32 → Int32 → Int32 → Option (Int32)) (Z_served : Nat → Int32) (F_spotCount : Int32) (F_pointCount : Int32) (F_spots : Nat → Int32) (p1 : Int32) (p2 : Int32) (p3 : Int32) (p4 : Int32) : Option (Int32) := (f_X4_rankOf F_spotCount F_spots p1 p4).bind (fun r2 => if p2 = (-9 : Int32) then (nm_ (p4 + (1 : Int32)) (fun t4 => k8 p4 r2 t4)) else (if p3 ≤ r2 then (nm_ (p4 + (1 : Int32)) (fun t6 => k8 p2 p3 t6)) else (nm_ (p4 + (1 : Int32)) (fun t7 => k8 p4 r2 t7))))
set_option maxHeartbeats 4000000 in
set_option maxRecDepth 100000 in
theorem wk_X4_choose_43 {p : Program} {l : Launch} {e : Env} {s : State} {m : MethodId} {args : Array Value} {below : List Frame} {meth : Method} {c : Code} {D : va_G} {cI cC cZ : ClassId} {A : Nat → Prop} {a_Z a_Z_served a_Z_sums a_F a_F_table a_F_spots a_F_points a_F_walls a_F_across a_F_bareLight : Nat} {Z_served : Nat → Int32} {Z_sums : Nat → Int32} {F_glow : Int32} {F_spotCount : Int32} {F_pointCount : Int32} {F_wallCount : Int32} {F_table : Nat → Int32} {F_spots : Nat → Int32} {F_points : Nat → Int32} {F_walls : Nat → Int32} {F_across : Nat → Int32} {F_bareLight : Nat → Int32} {p1 : Int32} {p2 : Int32} {p3 : Int32} {p4 : Int32} {k8 : Int32 → Int32 → Int32 → Option (Int32)} {rr : Int32} (C0 : kC p s m args meth c D (kTY cI cC cZ) cX4_choose (some .int) 6 RX4 A) (hk8 : ∀ (p2_k : Int32) (p3_k : Int32) (p4_k : Int32), k8 p2_k p3_k p4_k = some rr → ∀ (H : Heap) (locs : List Loc), va_P D vwCl (WD12 cI cC cZ a_Z a_Z_served a_Z_sums a_F a_F_table a_F_spots a_F_points a_F_walls a_F_across a_F_bareLight Z_served Z_sums F_glow F_spotCount F_pointCount F_wallCount F_table F_spots F_points F_walls F_across F_bareLight) H → va_D A (WD12 cI cC cZ a_Z a_Z_served a_Z_sums a_F a_F_table a_F_spots a_F_points a_F_walls a_F_across a_F_bareLight Z_served Z_sums F_glow F_spotCount F_pointCount F_wallCount F_table F_spots F_points F_walls F_across F_bareLight) → va_S A s.heap H locs → ∀ ls : Array Slot, lv_has ls 6 [(0, .ref a_Z), (1, .int p1), (2, .int p2_k), (3, .int p3_k), (4, .int p4_k)] → W p l e rm_X4_choose s m args below meth c H locs 0 0 (MQ below (kQI D (kTY cI cC cZ) A rr (WD12 cI cC cZ a_Z a_Z_served a_Z_sums a_F a_F_table a_F_spots a_F_points a_F_walls a_F_across a_F_bareLight Z_served Z_sums F_glow F_spotCount F_pointCount F_wallCount F_table F_spots F_points F_walls F_across F_bareLight)) args s 0 0 A) (F0 m 8 ls [])) (h : bk_X4_choose_43 k8 Z_served F_spotCount F_pointCount F_spots p1 p2 p3 p4 = some rr) {H : Heap} {locs : List Loc} (hP : va_P D vwCl (WD12 cI cC cZ a_Z a_Z_served a_Z_sums a_F a_F_table a_F_spots a_F_points a_F_walls a_F_across a_F_bareLight Z_served Z_sums F_glow F_spotCount F_pointCount F_wallCount F_table F_spots F_points F_walls F_across F_bareLight) H) (hD : va_D A (WD12 cI cC cZ a_Z a_Z_served a_Z_sums a_F a_F_table a_F_spots a_F_points a_F_walls a_F_across a_F_bareLight Z_served Z_sums F_glow F_spotCount F_pointCount F_wallCount F_table F_spots F_points F_walls F_across F_bareLight)) (hS : va_S A s.heap H locs) {ls : Array Slot} (hl : lv_has ls 6 [(0, .ref a_Z), (1, .int p1), (2, .int p2), (3, .int p3), (4, .int p4)]) : W p l e rm_X4_choose s m args below meth c H locs 0 0 (MQ below (kQI D (kTY cI cC cZ) A rr (WD12 cI cC cZ a_Z a_Z_served a_Z_sums a_F a_F_table a_F_spots a_F_points a_F_walls a_F_across a_F_bareLight Z_served Z_sums F_glow F_spotCount F_pointCount F_wallCount F_table F_spots F_points F_walls F_across F_bareLight)) args s 0 0 A) (F0 m 43 ls []) := by
  obtain ⟨hx, hb, hr, hml, hown, hts, hK, hN, hA, hlocks, hF⟩ := id C0
  unfold bk_X4_choose_43 at h
  refine lv_aload_n hx hb dX4_choose_43 rfl (lv_at hl 0 rfl) ?_
  refine lv_iload_n hx hb dX4_choose_44 rfl (lv_at hl 1 rfl) ?_
  refine lv_iload hx hb dX4_choose_45 (lv_at hl 4 rfl) ?_
  obtain ⟨r2, hc1, h⟩ := oc_bind h
  refine kro_i (wc := (WD12 cI cC cZ a_Z a_Z_served a_Z_sums a_F a_F_table a_F_spots a_F_points a_F_walls a_F_across a_F_bareLight Z_served Z_sums F_glow F_spotCount F_pointCount F_wallCount F_table F_spots F_points F_walls F_across F_bareLight)) C0 hP hD hS [0, 1, 2, 3, 4, 5, 6, 7, 8, 9] rfl (kV (n := 2) (As := [.int p1, .int p4]) (rest := []) (wc := (WD12 cI cC cZ a_Z a_Z_served a_Z_sums a_F a_F_table a_F_spots a_F_points a_F_walls a_F_across a_F_bareLight Z_served Z_sums F_glow F_spotCount F_pointCount F_wallCount F_table F_spots F_points F_walls F_across F_bareLight)) (C := RX4) C0 hP hD hS [0, 1, 2, 3, 4, 5, 6, 7, 8, 9] rfl (by decide) (c_X4_rankOf l D cI cC cZ a_Z a_Z_served a_Z_sums a_F a_F_table a_F_spots a_F_points a_F_walls a_F_across a_F_bareLight H.size Z_served Z_sums F_glow F_spotCount F_pointCount F_wallCount F_table F_spots F_points F_walls F_across F_bareLight p1 p4 r2 hc1) kw_531 kw_528 kw_529 kw_530 kw_38 (by decide +kernel) (by decide) rfl rfl rfl hl.1 rfl (Nat.le_of_ble_eq_true rfl) ⟨Nat.zero_le _, Nat.zero_le _⟩ dX4_choose_47) (fun H locs hP hS => ?_)
  refine lv_istore (lv' := [(5, .int r2), (0, .ref a_Z), (1, .int p1), (2, .int p2), (3, .int p3), (4, .int p4)]) hx hb dX4_choose_50 hl (by decide) rfl (fun ls hl => ?_)
  refine lv_iload_n hx hb dX4_choose_52 rfl (lv_at hl 3 rfl) ?_
  refine lv_bipush (v := (-9 : Int32)) hx hb dX4_choose_53 (by decide) ?_
  refine lv_icmp_eq (tgt := 64) hx hb dX4_choose_55 (by decide) (fun c3 => ?_) (fun c3 => ?_)
  · have h := oc_t c3 h
    refine lv_iload hx hb dX4_choose_64 (lv_at hl 5 rfl) ?_
    refine lv_istore_n (lv' := [(2, .int p4), (5, .int r2), (0, .ref a_Z), (1, .int p1), (3, .int p3), (4, .int p4)]) hx hb dX4_choose_66 rfl hl (by decide) rfl (fun ls hl => ?_)
    refine lv_iload hx hb dX4_choose_67 (lv_at hl 1 rfl) ?_
    refine lv_istore_n (lv' := [(3, .int r2), (2, .int p4), (5, .int r2), (0, .ref a_Z), (1, .int p1), (4, .int p4)]) hx hb dX4_choose_69 rfl hl (by decide) rfl (fun ls hl => ?_)
    obtain ⟨t4, e_t4⟩ : ∃ y : Int32, y = p4 + (1 : Int32) := ⟨_, rfl⟩
    have h := oc_nm e_t4 h
    refine lv_iinc (v := t4) (lv' := [(4, .int t4), (3, .int r2), (2, .int p4), (5, .int r2), (0, .ref a_Z), (1, .int p1)]) hx hb dX4_choose_70 hl (k := 5) rfl (by rw [e_t4]; rfl) (by decide) rfl (fun ls hl => ?_)
    refine lv_goto (tgt := 8) hx hb dX4_choose_73 (by decide) ?_
    exact hk8 _ _ _ h _ _ hP hD hS _ (lv_sub hl [4, 5, 2, 1, 0] rfl)
  · have h := oc_f c3 h
    refine lv_iload hx hb dX4_choose_58 (lv_at hl 0 rfl) ?_
    refine lv_iload_n hx hb dX4_choose_60 rfl (lv_at hl 4 rfl) ?_
    refine lv_icmp_ge (tgt := 70) hx hb dX4_choose_61 (by decide) (fun c5 => ?_) (fun c5 => ?_)
    · have h := oc_t c5 h
      obtain ⟨t6, e_t6⟩ : ∃ y : Int32, y = p4 + (1 : Int32) := ⟨_, rfl⟩
      have h := oc_nm e_t6 h
      refine lv_iinc (v := t6) (lv' := [(4, .int t6), (5, .int r2), (0, .ref a_Z), (1, .int p1), (2, .int p2), (3, .int p3)]) hx hb dX4_choose_70 hl (k := 5) rfl (by rw [e_t6]; rfl) (by decide) rfl (fun ls hl => ?_)
      refine lv_goto (tgt := 8) hx hb dX4_choose_73 (by decide) ?_
      exact hk8 _ _ _ h _ _ hP hD hS _ (lv_sub hl [2, 3, 4, 5, 0] rfl)
    · have h := oc_f c5 h
      refine lv_iload hx hb dX4_choose_64 (lv_at hl 5 rfl) ?_
      refine lv_istore_n (lv' := [(2, .int p4), (5, .int r2), (0, .ref a_Z), (1, .int p1), (3, .int p3), (4, .int p4)]) hx hb dX4_choose_66 rfl hl (by decide) rfl (fun ls hl => ?_)
      refine lv_iload hx hb dX4_choose_67 (lv_at hl 1 rfl) ?_
      refine lv_istore_n (lv' := [(3, .int r2), (2, .int p4), (5, .int r2), (0, .ref a_Z), (1, .int p1), (4, .int p4)]) hx hb dX4_choose_69 rfl hl (by decide) rfl (fun ls hl => ?_)
      obtain ⟨t7, e_t7⟩ : ∃ y : Int32, y = p4 + (1 : Int32) := ⟨_, rfl⟩
      have h := oc_nm e_t7 h
      refine lv_iinc (v := t7) (lv' := [(4, .int t7), (3, .int r2), (2, .int p4), (5, .int r2), (0, .ref a_Z), (1, .int p1)]) hx hb dX4_choose_70 hl (k := 5) rfl (by rw [e_t7]; rfl) (by decide) rfl (fun ls hl => ?_)
      refine lv_goto (tgt := 8) hx hb dX4_choose_73 (by decide) ?_
      exact hk8 _ _ _ h _ _ hP hD hS _ (lv_sub hl [4, 5, 2, 1, 0] rfl)
noncomputable def bk_X4_choose_8 (k8 : Int32 → Int32 → Int32 → Option (Int32)) (Z_served : Nat → Int32) (F_spotCount : Int32) (F_pointCount : Int32) (F_spots : Nat → Int32) (p1 : Int32) (p2 : Int32) (p3 : Int32) (p4 : Int32) : Option (Int32) := (f_X4_setCount F_spotCount).bind (fun r2 => if r2 ≤ p4 then (some p2) else ((f_X4_servesAll Z_served F_pointCount p4).bind (fun r5 => if r5 = 0 then (nm_ (p4 + (1 : Int32)) (fun t7 => k8 p2 p3 t7)) else (if p1 = (2 : Int32) then ((f_X4_servesWithoutAnyOne Z_served F_spotCount F_pointCount p4).bind (fun r10 => if r10 = 0 then (nm_ (p4 + (1 : Int32)) (fun t12 => k8 p2 p3 t12)) else (bk_X4_choose_43 k8 Z_served F_spotCount F_pointCount F_spots p1 p2 p3 p4))) else (bk_X4_choose_43 k8 Z_served F_spotCount F_pointCount F_spots p1 p2 p3 p4)))))
set_option maxHeartbeats 4000000 in
set_option maxRecDepth 100000 in
theorem wk_X4_choose_8 {p : Program} {l : Launch} {e : Env} {s : State} {m : MethodId} {args : Array Value} {below : List Frame} {meth : Method} {c : Code} {D : va_G} {cI cC cZ : ClassId} {A : Nat → Prop} {a_Z a_Z_served a_Z_sums a_F a_F_table a_F_spots a_F_points a_F_walls a_F_across a_F_bareLight : Nat} {Z_served : Nat → Int32} {Z_sums : Nat → Int32} {F_glow : Int32} {F_spotCount : Int32} {F_pointCount : Int32} {F_wallCount : Int32} {F_table : Nat → Int32} {F_spots : Nat → Int32} {F_points : Nat → Int32} {F_walls : Nat → Int32} {F_across : Nat → Int32} {F_bareLight : Nat → Int32} {p1 : Int32} {p2 : Int32} {p3 : Int32} {p4 : Int32} {k8 : Int32 → Int32 → Int32 → Option (Int32)} {rr : Int32} (C0 : kC p s m args meth c D (kTY cI cC cZ) cX4_choose (some .int) 6 RX4 A) (hk8 : ∀ (p2_k : Int32) (p3_k : Int32) (p4_k : Int32), k8 p2_k p3_k p4_k = some rr → ∀ (H : Heap) (locs : List Loc), va_P D vwCl (WD12 cI cC cZ a_Z a_Z_served a_Z_sums a_F a_F_table a_F_spots a_F_points a_F_walls a_F_across a_F_bareLight Z_served Z_sums F_glow F_spotCount F_pointCount F_wallCount F_table F_spots F_points F_walls F_across F_bareLight) H → va_D A (WD12 cI cC cZ a_Z a_Z_served a_Z_sums a_F a_F_table a_F_spots a_F_points a_F_walls a_F_across a_F_bareLight Z_served Z_sums F_glow F_spotCount F_pointCount F_wallCount F_table F_spots F_points F_walls F_across F_bareLight) → va_S A s.heap H locs → ∀ ls : Array Slot, lv_has ls 6 [(0, .ref a_Z), (1, .int p1), (2, .int p2_k), (3, .int p3_k), (4, .int p4_k)] → W p l e rm_X4_choose s m args below meth c H locs 0 0 (MQ below (kQI D (kTY cI cC cZ) A rr (WD12 cI cC cZ a_Z a_Z_served a_Z_sums a_F a_F_table a_F_spots a_F_points a_F_walls a_F_across a_F_bareLight Z_served Z_sums F_glow F_spotCount F_pointCount F_wallCount F_table F_spots F_points F_walls F_across F_bareLight)) args s 0 0 A) (F0 m 8 ls [])) (h : bk_X4_choose_8 k8 Z_served F_spotCount F_pointCount F_spots p1 p2 p3 p4 = some rr) {H : Heap} {locs : List Loc} (hP : va_P D vwCl (WD12 cI cC cZ a_Z a_Z_served a_Z_sums a_F a_F_table a_F_spots a_F_points a_F_walls a_F_across a_F_bareLight Z_served Z_sums F_glow F_spotCount F_pointCount F_wallCount F_table F_spots F_points F_walls F_across F_bareLight) H) (hD : va_D A (WD12 cI cC cZ a_Z a_Z_served a_Z_sums a_F a_F_table a_F_spots a_F_points a_F_walls a_F_across a_F_bareLight Z_served Z_sums F_glow F_spotCount F_pointCount F_wallCount F_table F_spots F_points F_walls F_across F_bareLight)) (hS : va_S A s.heap H locs) {ls : Array Slot} (hl : lv_has ls 6 [(0, .ref a_Z), (1, .int p1), (2, .int p2), (3, .int p3), (4, .int p4)]) : W p l e rm_X4_choose s m args below meth c H locs 0 0 (MQ below (kQI D (kTY cI cC cZ) A rr (WD12 cI cC cZ a_Z a_Z_served a_Z_sums a_F a_F_table a_F_spots a_F_points a_F_walls a_F_across a_F_bareLight Z_served Z_sums F_glow F_spotCount F_pointCount F_wallCount F_table F_spots F_points F_walls F_across F_bareLight)) args s 0 0 A) (F0 m 8 ls []) := by
  obtain ⟨hx, hb, hr, hml, hown, hts, hK, hN, hA, hlocks, hF⟩ := id C0
  unfold bk_X4_choose_8 at h
  refine lv_iload hx hb dX4_choose_8 (lv_at hl 4 rfl) ?_
  refine lv_aload_n hx hb dX4_choose_10 rfl (lv_at hl 0 rfl) ?_
  obtain ⟨r2, hc1, h⟩ := oc_bind h
  refine kro_i (wc := (WD12 cI cC cZ a_Z a_Z_served a_Z_sums a_F a_F_table a_F_spots a_F_points a_F_walls a_F_across a_F_bareLight Z_served Z_sums F_glow F_spotCount F_pointCount F_wallCount F_table F_spots F_points F_walls F_across F_bareLight)) C0 hP hD hS [0, 1, 2, 3, 4, 5, 6, 7, 8, 9] rfl (kV (n := 0) (As := []) (rest := [.int p4]) (wc := (WD12 cI cC cZ a_Z a_Z_served a_Z_sums a_F a_F_table a_F_spots a_F_points a_F_walls a_F_across a_F_bareLight Z_served Z_sums F_glow F_spotCount F_pointCount F_wallCount F_table F_spots F_points F_walls F_across F_bareLight)) (C := RX4) C0 hP hD hS [0, 1, 2, 3, 4, 5, 6, 7, 8, 9] rfl (by decide) (c_X4_setCount l D cI cC cZ a_Z a_Z_served a_Z_sums a_F a_F_table a_F_spots a_F_points a_F_walls a_F_across a_F_bareLight H.size Z_served Z_sums F_glow F_spotCount F_pointCount F_wallCount F_table F_spots F_points F_walls F_across F_bareLight  r2 hc1) kw_334 kw_331 kw_332 kw_333 kw_38 (by decide +kernel) (by decide) rfl rfl rfl hl.1 rfl (Nat.le_of_ble_eq_true rfl) ⟨Nat.zero_le _, Nat.zero_le _⟩ dX4_choose_11) (fun H locs hP hS => ?_)
  refine lv_icmp_ge (tgt := 76) hx hb dX4_choose_14 (by decide) (fun c3 => ?_) (fun c3 => ?_)
  · have h := oc_t c3 h
    refine lv_iload_n hx hb dX4_choose_76 rfl (lv_at hl 2 rfl) ?_
    cases h
    exact kret_i C0 hP hD hS rfl dX4_choose_77
  · have h := oc_f c3 h
    refine lv_aload_n hx hb dX4_choose_17 rfl (lv_at hl 0 rfl) ?_
    refine lv_iload hx hb dX4_choose_18 (lv_at hl 4 rfl) ?_
    obtain ⟨r5, hc4, h⟩ := oc_bind h
    refine kro_i (wc := (WD12 cI cC cZ a_Z a_Z_served a_Z_sums a_F a_F_table a_F_spots a_F_points a_F_walls a_F_across a_F_bareLight Z_served Z_sums F_glow F_spotCount F_pointCount F_wallCount F_table F_spots F_points F_walls F_across F_bareLight)) C0 hP hD hS [0, 1, 2, 3, 4, 5, 6, 7, 8, 9] rfl (kV (n := 1) (As := [.int p4]) (rest := []) (wc := (WD12 cI cC cZ a_Z a_Z_served a_Z_sums a_F a_F_table a_F_spots a_F_points a_F_walls a_F_across a_F_bareLight Z_served Z_sums F_glow F_spotCount F_pointCount F_wallCount F_table F_spots F_points F_walls F_across F_bareLight)) (C := RX4) C0 hP hD hS [0, 1, 2, 3, 4, 5, 6, 7, 8, 9] rfl (by decide) (c_X4_servesAll l D cI cC cZ a_Z a_Z_served a_Z_sums a_F a_F_table a_F_spots a_F_points a_F_walls a_F_across a_F_bareLight H.size Z_served Z_sums F_glow F_spotCount F_pointCount F_wallCount F_table F_spots F_points F_walls F_across F_bareLight p4 r5 hc4) kw_523 kw_520 kw_521 kw_522 kw_38 (by decide +kernel) (by decide) rfl rfl rfl hl.1 rfl (Nat.le_of_ble_eq_true rfl) ⟨Nat.zero_le _, Nat.zero_le _⟩ dX4_choose_20) (fun H locs hP hS => ?_)
    refine lv_if_eq (tgt := 70) hx hb dX4_choose_23 (by decide) (fun c6 => ?_) (fun c6 => ?_)
    · have h := oc_t c6 h
      obtain ⟨t7, e_t7⟩ : ∃ y : Int32, y = p4 + (1 : Int32) := ⟨_, rfl⟩
      have h := oc_nm e_t7 h
      refine lv_iinc (v := t7) (lv' := [(4, .int t7), (0, .ref a_Z), (1, .int p1), (2, .int p2), (3, .int p3)]) hx hb dX4_choose_70 hl (k := 4) rfl (by rw [e_t7]; rfl) (by decide) rfl (fun ls hl => ?_)
      refine lv_goto (tgt := 8) hx hb dX4_choose_73 (by decide) ?_
      exact hk8 _ _ _ h _ _ hP hD hS _ (lv_sub hl [1, 2, 3, 4, 0] rfl)
    · have h := oc_f c6 h
      refine lv_iload_n hx hb dX4_choose_26 rfl (lv_at hl 1 rfl) ?_
      refine lv_iconst (v := (2 : Int32)) hx hb dX4_choose_27 (by decide) ?_
      refine lv_icmp_ne (tgt := 43) hx hb dX4_choose_28 (by decide) (fun c8 => ?_) (fun c8 => ?_)
      · have h := oc_f c8 h
        exact wk_X4_choose_43 C0 hk8 h hP hD hS (lv_sub hl [0, 1, 2, 3, 4] rfl)
      · have h := oc_t c8 h
        refine lv_aload_n hx hb dX4_choose_31 rfl (lv_at hl 0 rfl) ?_
        refine lv_iload hx hb dX4_choose_32 (lv_at hl 4 rfl) ?_
        obtain ⟨r10, hc9, h⟩ := oc_bind h
        refine kro_i (wc := (WD12 cI cC cZ a_Z a_Z_served a_Z_sums a_F a_F_table a_F_spots a_F_points a_F_walls a_F_across a_F_bareLight Z_served Z_sums F_glow F_spotCount F_pointCount F_wallCount F_table F_spots F_points F_walls F_across F_bareLight)) C0 hP hD hS [0, 1, 2, 3, 4, 5, 6, 7, 8, 9] rfl (kV (n := 1) (As := [.int p4]) (rest := []) (wc := (WD12 cI cC cZ a_Z a_Z_served a_Z_sums a_F a_F_table a_F_spots a_F_points a_F_walls a_F_across a_F_bareLight Z_served Z_sums F_glow F_spotCount F_pointCount F_wallCount F_table F_spots F_points F_walls F_across F_bareLight)) (C := RX4) C0 hP hD hS [0, 1, 2, 3, 4, 5, 6, 7, 8, 9] rfl (by decide) (c_X4_servesWithoutAnyOne l D cI cC cZ a_Z a_Z_served a_Z_sums a_F a_F_table a_F_spots a_F_points a_F_walls a_F_across a_F_bareLight H.size Z_served Z_sums F_glow F_spotCount F_pointCount F_wallCount F_table F_spots F_points F_walls F_across F_bareLight p4 r10 hc9) kw_527 kw_524 kw_525 kw_526 kw_38 (by decide +kernel) (by decide) rfl rfl rfl hl.1 rfl (Nat.le_of_ble_eq_true rfl) ⟨Nat.zero_le _, Nat.zero_le _⟩ dX4_choose_34) (fun H locs hP hS => ?_)
        refine lv_if_ne (tgt := 43) hx hb dX4_choose_37 (by decide) (fun c11 => ?_) (fun c11 => ?_)
        · have h := oc_f c11 h
          exact wk_X4_choose_43 C0 hk8 h hP hD hS (lv_sub hl [0, 1, 2, 3, 4] rfl)
        · have h := oc_t c11 h
          refine lv_goto (tgt := 70) hx hb dX4_choose_40 (by decide) ?_
          obtain ⟨t12, e_t12⟩ : ∃ y : Int32, y = p4 + (1 : Int32) := ⟨_, rfl⟩
          have h := oc_nm e_t12 h
          refine lv_iinc (v := t12) (lv' := [(4, .int t12), (0, .ref a_Z), (1, .int p1), (2, .int p2), (3, .int p3)]) hx hb dX4_choose_70 hl (k := 4) rfl (by rw [e_t12]; rfl) (by decide) rfl (fun ls hl => ?_)
          refine lv_goto (tgt := 8) hx hb dX4_choose_73 (by decide) ?_
          exact hk8 _ _ _ h _ _ hP hD hS _ (lv_sub hl [1, 2, 3, 4, 0] rfl)
noncomputable def lp_X4_choose_8  (Z_served : Nat → Int32) (F_spotCount : Int32) (F_pointCount : Int32) (F_spots : Nat → Int32) (p1 : Int32) (n : Nat) : Int32 → Int32 → Int32 → Option (Int32) := Nat.rec (motive := fun _ => Int32 → Int32 → Int32 → Option (Int32)) (fun _ _ _ => none) (fun _ ih => bk_X4_choose_8  ih Z_served F_spotCount F_pointCount F_spots p1) n
set_option maxHeartbeats 4000000 in
set_option maxRecDepth 100000 in
theorem wl_X4_choose_8 {p : Program} {l : Launch} {e : Env} {s : State} {m : MethodId} {args : Array Value} {below : List Frame} {meth : Method} {c : Code} {D : va_G} {cI cC cZ : ClassId} {A : Nat → Prop} {a_Z a_Z_served a_Z_sums a_F a_F_table a_F_spots a_F_points a_F_walls a_F_across a_F_bareLight : Nat} {Z_served : Nat → Int32} {Z_sums : Nat → Int32} {F_glow : Int32} {F_spotCount : Int32} {F_pointCount : Int32} {F_wallCount : Int32} {F_table : Nat → Int32} {F_spots : Nat → Int32} {F_points : Nat → Int32} {F_walls : Nat → Int32} {F_across : Nat → Int32} {F_bareLight : Nat → Int32} {p1 : Int32}  {rr : Int32} (C0 : kC p s m args meth c D (kTY cI cC cZ) cX4_choose (some .int) 6 RX4 A)  : ∀ (n : Nat) (p2 : Int32) (p3 : Int32) (p4 : Int32), lp_X4_choose_8  Z_served F_spotCount F_pointCount F_spots p1 n p2 p3 p4 = some rr → ∀ (H : Heap) (locs : List Loc), va_P D vwCl (WD12 cI cC cZ a_Z a_Z_served a_Z_sums a_F a_F_table a_F_spots a_F_points a_F_walls a_F_across a_F_bareLight Z_served Z_sums F_glow F_spotCount F_pointCount F_wallCount F_table F_spots F_points F_walls F_across F_bareLight) H → va_D A (WD12 cI cC cZ a_Z a_Z_served a_Z_sums a_F a_F_table a_F_spots a_F_points a_F_walls a_F_across a_F_bareLight Z_served Z_sums F_glow F_spotCount F_pointCount F_wallCount F_table F_spots F_points F_walls F_across F_bareLight) → va_S A s.heap H locs → ∀ ls : Array Slot, lv_has ls 6 [(0, .ref a_Z), (1, .int p1), (2, .int p2), (3, .int p3), (4, .int p4)] → W p l e rm_X4_choose s m args below meth c H locs 0 0 (MQ below (kQI D (kTY cI cC cZ) A rr (WD12 cI cC cZ a_Z a_Z_served a_Z_sums a_F a_F_table a_F_spots a_F_points a_F_walls a_F_across a_F_bareLight Z_served Z_sums F_glow F_spotCount F_pointCount F_wallCount F_table F_spots F_points F_walls F_across F_bareLight)) args s 0 0 A) (F0 m 8 ls []) := by
  intro n
  induction n with
  | zero => intro p2 p3 p4 h; cases (show (none : Option (Int32)) = some _ from h)
  | succ n ih =>
    intro p2 p3 p4 h H locs hP hD hS ls hl
    exact wk_X4_choose_8 C0  (fun p2 p3 p4 h H locs hP hD hS ls hl => ih p2 p3 p4 h H locs hP hD hS ls hl) (show bk_X4_choose_8  (lp_X4_choose_8  Z_served F_spotCount F_pointCount F_spots p1 n) Z_served F_spotCount F_pointCount F_spots p1 p2 p3 p4 = some _ from h) hP hD hS hl
noncomputable def f_X4_choose (Z_served : Nat → Int32) (F_spotCount : Int32) (F_pointCount : Int32) (F_spots : Nat → Int32) (p1 : Int32) : Option (Int32) := lp_X4_choose_8  Z_served F_spotCount F_pointCount F_spots p1 1000 (-9 : Int32) (0 : Int32) (0 : Int32)
set_option maxHeartbeats 4000000 in
set_option maxRecDepth 100000 in
theorem c_X4_choose (l : Launch) (D : va_G) (cI cC cZ : ClassId) (a_Z a_Z_served a_Z_sums a_F a_F_table a_F_spots a_F_points a_F_walls a_F_across a_F_bareLight : Nat) (sz : Nat) (Z_served : Nat → Int32) (Z_sums : Nat → Int32) (F_glow : Int32) (F_spotCount : Int32) (F_pointCount : Int32) (F_wallCount : Int32) (F_table : Nat → Int32) (F_spots : Nat → Int32) (F_points : Nat → Int32) (F_walls : Nat → Int32) (F_across : Nat → Int32) (F_bareLight : Nat → Int32) (p1 : Int32) (rr : Int32) (hf : f_X4_choose Z_served F_spotCount F_pointCount F_spots p1 = some rr) : kMet l yX4_choose cX4_choose 6 (some .int) rm_X4_choose D (kTY cI cC cZ) [.ref a_Z, .int p1] (WD12 cI cC cZ a_Z a_Z_served a_Z_sums a_F a_F_table a_F_spots a_F_points a_F_walls a_F_across a_F_bareLight Z_served Z_sums F_glow F_spotCount F_pointCount F_wallCount F_table F_spots F_points F_walls F_across F_bareLight) sz (kQI D (kTY cI cC cZ) (va_A (WD12 cI cC cZ a_Z a_Z_served a_Z_sums a_F a_F_table a_F_spots a_F_points a_F_walls a_F_across a_F_bareLight Z_served Z_sums F_glow F_spotCount F_pointCount F_wallCount F_table F_spots F_points F_walls F_across F_bareLight) sz) rr (WD12 cI cC cZ a_Z a_Z_served a_Z_sums a_F a_F_table a_F_spots a_F_points a_F_walls a_F_across a_F_bareLight Z_served Z_sums F_glow F_spotCount F_pointCount F_wallCount F_table F_spots F_points F_walls F_across F_bareLight)) := by
  refine kEnter (lv := [(0, .ref a_Z), (1, .int p1)]) (own := RX4) (by decide) rfl (Nat.le_of_ble_eq_true rfl) rfl ?_
  intro p e s m below meth c hsz C0 hP hD hS ls hl
  generalize (va_A (WD12 cI cC cZ a_Z a_Z_served a_Z_sums a_F a_F_table a_F_spots a_F_points a_F_walls a_F_across a_F_bareLight Z_served Z_sums F_glow F_spotCount F_pointCount F_wallCount F_table F_spots F_points F_walls F_across F_bareLight) sz) = A at C0 hD hS ⊢
  clear hsz hS
  obtain ⟨H, hHs⟩ : ∃ H : Heap, H = s.heap := ⟨_, rfl⟩
  have hS : va_S A s.heap H [] := by rw [hHs]; exact va_S.rf
  rw [← hHs] at hP ⊢
  obtain ⟨hx, hb, hr, hml, hown, hts, hK, hN, hA, hlocks, hF⟩ := id C0
  have h := hf
  unfold f_X4_choose at h
  refine lv_bipush (v := (-9 : Int32)) hx hb dX4_choose_0 (by decide) ?_
  refine lv_istore_n (lv' := [(2, .int (-9 : Int32)), (0, .ref a_Z), (1, .int p1)]) hx hb dX4_choose_2 rfl hl (by decide) rfl (fun ls hl => ?_)
  refine lv_iconst (v := (0 : Int32)) hx hb dX4_choose_3 (by decide) ?_
  refine lv_istore_n (lv' := [(3, .int (0 : Int32)), (2, .int (-9 : Int32)), (0, .ref a_Z), (1, .int p1)]) hx hb dX4_choose_4 rfl hl (by decide) rfl (fun ls hl => ?_)
  refine lv_iconst (v := (0 : Int32)) hx hb dX4_choose_5 (by decide) ?_
  refine lv_istore (lv' := [(4, .int (0 : Int32)), (3, .int (0 : Int32)), (2, .int (-9 : Int32)), (0, .ref a_Z), (1, .int p1)]) hx hb dX4_choose_6 hl (by decide) rfl (fun ls hl => ?_)
  exact wl_X4_choose_8 C0  _ _ _ _ h _ _ hP hD hS _ (lv_sub hl [3, 4, 2, 1, 0] rfl)
