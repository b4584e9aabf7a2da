/-! FLOATS OF SMALL FRACTIONS -/
theorem fx_T {E T : Nat} (hT : T < 2 ^ 23) : FP.Core.fieldT FP.Core.b32 (E * 2 ^ 23 + T) = T := by
  show (E * 2 ^ 23 + T) % 2 ^ 23 = T
  rw [Nat.mul_comm, Nat.mul_add_mod, Nat.mod_eq_of_lt hT]
theorem fx_E {E T : Nat} (hE : E < 256) (hT : T < 2 ^ 23) : FP.Core.fieldE FP.Core.b32 (E * 2 ^ 23 + T) = E := by
  show (E * 2 ^ 23 + T) / 2 ^ 23 % 256 = E
  rw [Nat.mul_comm, Nat.mul_add_div (by decide), Nat.div_eq_of_lt hT, Nat.add_zero, Nat.mod_eq_of_lt hE]
theorem fx_S {E T : Nat} (hE : E < 256) (hT : T < 2 ^ 23) : FP.Core.fieldS FP.Core.b32 (E * 2 ^ 23 + T) = false := by
  show ((E * 2 ^ 23 + T) / 2 ^ 23 / 256 % 2 == 1) = false
  rw [Nat.mul_comm, Nat.mul_add_div (by decide), Nat.div_eq_of_lt hT, Nat.add_zero, Nat.div_eq_of_lt hE]
  rfl
theorem fx_t : FP.Core.b32.tails = 2 ^ 23 := rfl
theorem fx_x : FP.Core.b32.exps = 256 := rfl
theorem fx_q : FP.Core.b32.qmin = -149 := rfl
theorem fx_dec {E T : Nat} (h1 : 1 ≤ E) (h2 : E ≤ 254) (hT : T < 2 ^ 23) : FP.Core.decode FP.Core.b32 (E * 2 ^ 23 + T) = .fin false (2 ^ 23 + T) ((E : Int) - 150) := by
  unfold FP.Core.decode
  rw [fx_E (by omega) hT, fx_T hT, fx_S (by omega) hT, fx_x, fx_t, fx_q, if_neg (show ¬ E = 256 - 1 by omega), if_neg (show ¬ E = 0 by omega), show (-149 : Int) + ((E : Int) - 1) = (E : Int) - 150 by omega]
theorem fx_nat {N : Nat} (h : N < 2 ^ 32) : (UInt32.ofNat N).toNat = N := Nat.mod_eq_of_lt h
theorem fx_enc {E T : Nat} (h1 : 1 ≤ E) (hT : T < 2 ^ 23) : FP.Core.encode FP.Core.b32 (.fin false (2 ^ 23 + T) ((E : Int) - 150)) = E * 2 ^ 23 + T := by
  unfold FP.Core.encode FP.Core.assemble
  dsimp only
  rw [fx_t, fx_q, fx_x, if_neg (by omega), show ((E : Int) - 150 - -149).toNat + 1 = E by omega, show Bool.toNat false = 0 from rfl]
  omega
theorem fx_log {c : Nat} (h1 : 2 ^ 23 ≤ c) (h2 : c < 2 ^ 24) : (c * 2 ^ 23).log2 = 46 := by
  rw [Nat.log2_eq_iff (by omega)]
  omega
theorem fx_lead {c : Nat} (h1 : 2 ^ 23 ≤ c) (h2 : c < 2 ^ 24) : FP.Core.leading (c * 2 ^ 23) 1 = 46 := by
  unfold FP.Core.leading
  rw [fx_log h1 h2, show Nat.log2 1 = 0 from by decide]
  dsimp only
  rw [if_pos]
  · rfl
  · show 1 * 2 ^ 46 ≤ c * 2 ^ 23 * 2 ^ 0
    omega
theorem fx_round {c : Nat} {e : Int} (h1 : 2 ^ 23 ≤ c) (h2 : c < 2 ^ 24) (he : -172 ≤ e) (he2 : e ≤ 81) : FP.Core.round FP.Core.b32 (.fin false (c * 2 ^ 23) e) = .fin false c (e + 23) := by
  unfold FP.Core.round FP.Core.roundRatio
  dsimp only
  rw [if_neg (by omega)]
  unfold FP.Core.roundAt FP.Core.quantum
  rw [fx_lead h1 h2, fx_q, show ((FP.Core.b32.p : Nat) : Int) = 24 from rfl, show max (-149 : Int) (46 + e - (24 - 1)) = e + 23 by omega]
  unfold FP.Core.unitsNum FP.Core.unitsDen
  rw [show (e - (e + 23)).toNat = 0 by omega, show (e + 23 - e).toNat = 23 by omega, Nat.pow_zero, Nat.mul_one, Nat.one_mul]
  have hn : FP.Core.nearest (c * 2 ^ 23) (2 ^ 23) = c := by
    unfold FP.Core.nearest
    rw [Nat.mul_mod_left, if_pos (by decide), Nat.mul_div_cancel _ (by decide)]
  rw [hn]
  unfold FP.Core.settle FP.Core.bound
  rw [show FP.Core.b32.p = 24 from rfl, if_pos h2, show FP.Core.b32.qmax = 104 from rfl, if_pos (by omega)]
theorem fx_mul2 {E T : Nat} (h1 : 1 ≤ E) (h2 : E ≤ 200) (hT : T < 2 ^ 23) : FP.fmul (UInt32.ofNat (E * 2 ^ 23 + T)) FP.fconst2 = UInt32.ofNat ((E + 1) * 2 ^ 23 + T) := by
  show UInt32.ofNat (FP.Core.mul FP.Core.b32 (UInt32.ofNat (E * 2 ^ 23 + T)).toNat (UInt32.toNat 0x40000000)) = _
  rw [fx_nat (by omega)]
  unfold FP.Core.mul
  rw [fx_dec h1 (by omega) hT, show FP.Core.decode FP.Core.b32 (UInt32.toNat 0x40000000) = .fin false (2 ^ 23) (-22) by decide +kernel]
  unfold FP.Core.exactProduct
  dsimp only
  rw [show (false != false) = false from rfl, fx_round (by omega) (by omega) (by omega) (by omega), show (E : Int) - 150 + -22 + 23 = ((E + 1 : Nat) : Int) - 150 by omega, fx_enc (by omega) hT]
theorem fx_one : FP.Core.decode FP.Core.b32 (UInt32.toNat 0x3f800000) = .fin false (2 ^ 23) (-23) := by decide +kernel
theorem fx_cmp_lt {E T : Nat} (h1 : 1 ≤ E) (h2 : E < 127) (hT : T < 2 ^ 23) : FP.fcmp (UInt32.ofNat (E * 2 ^ 23 + T)) FP.fconst1 = some .lt := by
  show FP.Core.cmp FP.Core.b32 (UInt32.ofNat (E * 2 ^ 23 + T)).toNat (UInt32.toNat 0x3f800000) = _
  rw [fx_nat (by omega)]
  unfold FP.Core.cmp
  rw [fx_dec h1 (by omega) hT, fx_one]
  unfold FP.Core.order FP.Core.inUnits FP.Core.signed
  dsimp only
  have hp : 2 ≤ 2 ^ (127 - E) := Nat.pow_le_pow_right (n := 2) (i := 1) (by decide) (by omega)
  rw [show min ((E : Int) - 150) (-23) = (E : Int) - 150 by omega, show ((E : Int) - 150 - ((E : Int) - 150)).toNat = 0 by omega, show (-23 - ((E : Int) - 150)).toNat = 127 - E by omega, Nat.pow_zero, Nat.mul_one]
  have hlt : 2 ^ 23 + T < 2 ^ 23 * 2 ^ (127 - E) := by
    have := Nat.mul_le_mul_left (2 ^ 23) hp
    omega
  congr 1
  rw [if_neg (by decide), if_neg (by decide)]
  exact (Int.compare_eq_lt).mpr (by omega)
theorem fx_cmp_ge {T : Nat} (hT : T < 2 ^ 23) : FP.fcmp (UInt32.ofNat (127 * 2 ^ 23 + T)) FP.fconst1 = some (compare ((2 ^ 23 + T : Nat) : Int) ((2 ^ 23 : Nat) : Int)) := by
  show FP.Core.cmp FP.Core.b32 (UInt32.ofNat (127 * 2 ^ 23 + T)).toNat (UInt32.toNat 0x3f800000) = _
  rw [fx_nat (by omega)]
  unfold FP.Core.cmp
  rw [fx_dec (by omega) (by omega) hT, fx_one]
  unfold FP.Core.order FP.Core.inUnits FP.Core.signed
  dsimp only
  rw [show min (((127 : Nat) : Int) - 150) (-23) = -23 by omega, show (((127 : Nat) : Int) - 150 - -23).toNat = 0 by omega, show ((-23 : Int) - -23).toNat = 0 by omega, Nat.pow_zero, Nat.mul_one, Nat.mul_one, if_neg (by decide), if_neg (by decide)]
theorem fx_mulB {T : Nat} (hT : T < 2 ^ 23) : FP.fmul (UInt32.ofNat (127 * 2 ^ 23 + T)) 1258291200 = UInt32.ofNat (150 * 2 ^ 23 + T) := by
  show UInt32.ofNat (FP.Core.mul FP.Core.b32 (UInt32.ofNat (127 * 2 ^ 23 + T)).toNat (UInt32.toNat 1258291200)) = _
  rw [fx_nat (by omega)]
  unfold FP.Core.mul
  rw [fx_dec (by omega) (by omega) hT, show FP.Core.decode FP.Core.b32 (UInt32.toNat 1258291200) = .fin false (2 ^ 23) 0 by decide +kernel]
  unfold FP.Core.exactProduct
  dsimp only
  rw [show (false != false) = false from rfl, fx_round (by omega) (by omega) (by omega) (by omega), show ((127 : Nat) : Int) - 150 + 0 + 23 = ((150 : Nat) : Int) - 150 by omega, fx_enc (by omega) hT]
theorem fx_f2i {T : Nat} (hT : T < 2 ^ 23) : FP.f2i (UInt32.ofNat (150 * 2 ^ 23 + T)) = nI (2 ^ 23 + T) := by
  show FP.Core.toI (FP.Core.decode FP.Core.b32 (UInt32.ofNat (150 * 2 ^ 23 + T)).toNat) = _
  rw [fx_nat (by omega), fx_dec (by omega) (by omega) hT]
  unfold FP.Core.toI FP.Core.toInt FP.Core.truncate FP.Core.signed
  dsimp only
  rw [show (((150 : Nat) : Int) - 150).toNat = 0 by omega, show (-(((150 : Nat) : Int) - 150)).toNat = 0 by omega, Nat.pow_zero, Nat.mul_one, Nat.div_one, if_neg (by decide), nI_iI]
  unfold iI
  congr 1
  omega
theorem fx_nn {N : Nat} (h : N ≤ 0x7f800000) : (UInt32.ofNat N) &&& 0x7fffffff ≤ (0x7f800000 : UInt32) := by
  rw [UInt32.le_iff_toNat_le, UInt32.toNat_and, fx_nat (by omega)]
  have : N &&& UInt32.toNat 0x7fffffff ≤ N := Nat.and_le_left
  have e : UInt32.toNat 0x7f800000 = 0x7f800000 := rfl
  omega
theorem fx_40 {T p : Nat} (hT : T < 2 ^ 23) (hp : p ≤ 127) : bk_X6_bitsOf_40 (UInt32.ofNat (127 * 2 ^ 23 + T)) (nI p) = some (nI (p * 2 ^ 23 + T)) := by
  unfold bk_X6_bitsOf_40
  rw [fx_mulB hT, if_pos (fx_nn (by omega)), fx_f2i hT, pk_shlN (n := p) (23 &&& 31) 23 (by decide) (by omega), show (8388608 : Int32) = nI (2 ^ 23) from rfl, pk_sub (by omega), nI_add, show 2 ^ 23 + T - 2 ^ 23 = T by omega]
theorem fx_bits : ∀ (d E T p c n2 : Nat), E + d = 127 → 1 ≤ E → T < 2 ^ 23 → d ≤ p → p ≤ 127 → c + d ≤ 125 → d < n2 → lp_X6_bitsOf_15 n2 (UInt32.ofNat (E * 2 ^ 23 + T)) (nI p) (nI c) = some (nI ((p - d) * 2 ^ 23 + T))
  | _, _, _, _, _, 0, _, _, _, _, _, _, h => by omega
  | 0, E, T, p, c, n2 + 1, hE, _, hT, _, hp, hc, _ => by
    have : E = 127 := by omega
    subst this
    rw [le_X6_bitsOf_15]
    unfold bk_X6_bitsOf_15
    rw [if_neg (show ¬ (126 : Int32) ≤ nI c from nI_ge (b := 126) (by omega) (by omega)), fx_cmp_ge hT, fx_40 hT hp, Nat.sub_zero, if_pos]
    rcases Nat.eq_zero_or_pos T with z | z
    · subst z; decide
    · rw [(Int.compare_eq_gt).mpr (by omega)]; decide
  | d + 1, E, T, p, c, n2 + 1, hE, h1, hT, hd, hp, hc, hn => by
    rw [le_X6_bitsOf_15]
    unfold bk_X6_bitsOf_15
    rw [if_neg (show ¬ (126 : Int32) ≤ nI c from nI_ge (b := 126) (by omega) (by omega)), fx_cmp_lt h1 (by omega) hT, if_neg (by decide), fx_mul2 h1 (by omega) hT, if_pos (fx_nn (by omega)), nmE, nmE, nmE, nI_1]
    obtain ⟨p', rfl⟩ : ∃ p', p = p' + 1 := ⟨p - 1, by omega⟩
    rw [pk_m1, fx_bits d (E + 1) T p' (c + 1) n2 (by omega) (by omega) hT (by omega) (by omega) (by omega) (by omega), show p' + 1 - (d + 1) = p' - d by omega]
theorem fx_bitsOf {E T : Nat} (h1 : 2 ≤ E) (h2 : E ≤ 127) (hT : T < 2 ^ 23) : f_X6_bitsOf (UInt32.ofNat (E * 2 ^ 23 + T)) = some (nI (E * 2 ^ 23 + T)) := by
  unfold f_X6_bitsOf
  have key := fx_bits (127 - E) E T 127 0 1000 (by omega) (by omega) hT (by omega) (by omega) (by omega) (by omega)
  rw [show 127 - (127 - E) = E by omega] at key
  rw [if_pos]
  · exact key
  · have ec : FP.fcmp (UInt32.ofNat (E * 2 ^ 23 + T)) FP.fconst0 = some .gt := by
      show FP.Core.cmp FP.Core.b32 (UInt32.ofNat (E * 2 ^ 23 + T)).toNat (UInt32.toNat 0) = _
      rw [fx_nat (by omega)]
      unfold FP.Core.cmp
      rw [fx_dec (by omega) (by omega) hT, show FP.Core.decode FP.Core.b32 (UInt32.toNat 0) = .fin false 0 (-149) by decide +kernel]
      unfold FP.Core.order FP.Core.inUnits FP.Core.signed
      dsimp only
      have hp : 0 < (2 ^ 23 + T) * 2 ^ ((E : Int) - 150 - min ((E : Int) - 150) (-149)).toNat := Nat.mul_pos (by omega) (Nat.two_pow_pos _)
      congr 1
      rw [if_neg (by decide), if_neg (by decide), Nat.zero_mul]
      exact (Int.compare_eq_gt).mpr (by omega)
    rw [ec]
    decide
theorem fx_i2f : ∀ a, a < 658 → 0 < a → FP.Core.decode FP.Core.b32 (FP.i2f (nI a)).toNat = .fin false (a * 2 ^ (23 - a.log2)) ((a.log2 : Int) - 23) := by decide +kernel
theorem fx_lg : ∀ a, a < 658 → 0 < a → a.log2 ≤ 9 ∧ 2 ^ 23 ≤ a * 2 ^ (23 - a.log2) ∧ a * 2 ^ (23 - a.log2) < 2 ^ 24 ∧ (a * 2 ^ (23 - a.log2)).log2 = 23 := by decide +kernel
