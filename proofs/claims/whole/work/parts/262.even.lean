/-! THE EVENNESS, IN FLOATS -/
theorem fx_sm : ∀ k, k < 64 → (((nI k).toInt64 &&& 63).toBitVec.smod 64).toNat = k := by decide +kernel
theorem fx_shl (n : Nat) {k : Nat} (hk : k < 64) : lN n <<< ((nI k).toInt64 &&& 63) = lN (n * 2 ^ k) := by
  apply Int64.toBitVec_inj.mp
  apply BitVec.eq_of_toNat_eq
  show ((lN n).toBitVec <<< (((nI k).toInt64 &&& 63).toBitVec.smod 64).toNat).toNat = (BitVec.ofNat 64 (n * 2 ^ k)).toNat
  rw [fx_sm k hk, BitVec.toNat_shiftLeft, Nat.shiftLeft_eq, BitVec.toNat_ofNat]
  show n % 2 ^ 64 * 2 ^ k % 2 ^ 64 = _
  rw [Nat.mul_mod, Nat.mod_mod, ← Nat.mul_mod]
theorem fx_scale {n d s : Nat} (hs : 0 < s) : FP.Core.nearest (n * s) (d * s) = FP.Core.nearest n d := by
  unfold FP.Core.nearest
  rw [Nat.mul_mod_mul_right, Nat.mul_div_mul_right _ _ hs, ← Nat.mul_assoc]
  have e1 : (2 * (n % d) * s < d * s) = (2 * (n % d) < d) := propext ⟨fun h => Nat.lt_of_mul_lt_mul_right h, fun h => Nat.mul_lt_mul_of_pos_right h hs⟩
  have e2 : (d * s < 2 * (n % d) * s) = (d < 2 * (n % d)) := propext ⟨fun h => Nat.lt_of_mul_lt_mul_right h, fun h => Nat.mul_lt_mul_of_pos_right h hs⟩
  simp only [e1, e2]
theorem fx_leadA {x y : Nat} (hx : x.log2 = 23) (hy : y.log2 = 23) : FP.Core.leading x y = if y ≤ x then 0 else -1 := by
  unfold FP.Core.leading
  rw [hx, hy]
  show (if y * 2 ^ 0 ≤ x * 2 ^ 0 then (0 : Int) else -1) = _
  by_cases c : y ≤ x
  · rw [if_pos c, if_pos (show y * 2 ^ 0 ≤ x * 2 ^ 0 by omega)]
  · rw [if_neg c, if_neg (show ¬ y * 2 ^ 0 ≤ x * 2 ^ 0 by omega)]
theorem fx_k {a b k la lb : Nat} (a1 : 2 ^ la ≤ a) (a2 : a < 2 ^ (la + 1)) (b1 : 2 ^ lb ≤ b) (b2 : b < 2 ^ (lb + 1)) (hab : a ≤ b) (hl : lb ≤ 9) (hk : b ≤ a * 2 ^ k) (hm : ∀ j, j < k → a * 2 ^ j < b) : (b * 2 ^ (23 - lb) ≤ a * 2 ^ (23 - la) ∧ k + la = lb) ∨ (¬ b * 2 ^ (23 - lb) ≤ a * 2 ^ (23 - la) ∧ k + la = lb + 1) := by
  have hll : la < lb + 1 := (Nat.pow_lt_pow_iff_right (a := 2) (by decide)).mp (by omega)
  obtain ⟨d, rfl⟩ : ∃ d, lb = la + d := ⟨lb - la, by omega⟩
  have e : a * 2 ^ (23 - la) = a * 2 ^ d * 2 ^ (23 - (la + d)) := by
    rw [Nat.mul_assoc, ← Nat.pow_add, show d + (23 - (la + d)) = 23 - la by omega]
  have hp : 0 < 2 ^ (23 - (la + d)) := Nat.two_pow_pos _
  rw [e]
  have e2 : (b * 2 ^ (23 - (la + d)) ≤ a * 2 ^ d * 2 ^ (23 - (la + d))) = (b ≤ a * 2 ^ d) := propext ⟨fun h => Nat.le_of_mul_le_mul_right h hp, fun h => Nat.mul_le_mul_right _ h⟩
  rw [e2]
  by_cases c : b ≤ a * 2 ^ d
  · left
    refine ⟨c, ?_⟩
    have k1 : ¬ d < k := fun z => by have := hm d z; omega
    have k2 : ¬ k < d := fun z => by
      have q1 : a * 2 ^ k < 2 ^ (la + 1) * 2 ^ k := Nat.mul_lt_mul_of_pos_right a2 (Nat.two_pow_pos _)
      rw [← Nat.pow_add] at q1
      have q2 : 2 ^ (la + 1 + k) ≤ 2 ^ (la + d) := Nat.pow_le_pow_right (by decide) (by omega)
      omega
    omega
  · right
    refine ⟨c, ?_⟩
    have k1 : ¬ d + 1 < k := fun z => by
      have q1 := hm (d + 1) z
      have q2 : 2 ^ la * 2 ^ (d + 1) ≤ a * 2 ^ (d + 1) := Nat.mul_le_mul_right _ a1
      rw [← Nat.pow_add, ← Nat.add_assoc] at q2
      omega
    have k2 : ¬ k < d + 1 := fun z => by
      have q2 : a * 2 ^ k ≤ a * 2 ^ d := Nat.mul_le_mul_left _ (Nat.pow_le_pow_right (by decide) (by omega))
      omega
    omega
theorem fx_quot {a b k : Nat} (ha : 0 < a) (hab : a ≤ b) (hb : b < 658) (hk : b ≤ a * 2 ^ k) (hm : ∀ j, j < k → a * 2 ^ j < b) (hk2 : k ≤ 10) : FP.Core.quotient FP.Core.b32 (FP.Core.decode FP.Core.b32 (FP.i2f (nI a)).toNat) (FP.Core.decode FP.Core.b32 (FP.i2f (nI b)).toNat) = FP.Core.settle FP.Core.b32 false (FP.Core.nearest (a * 2 ^ (k + 23)) b) (-(k : Int) - 23) := by
  obtain ⟨a1, a2, a3, a4⟩ := fx_lg a (by omega) ha
  obtain ⟨b1, b2, b3, b4⟩ := fx_lg b hb (by omega)
  have kk := fx_k (Nat.log2_self_le (by omega)) Nat.lt_log2_self (Nat.log2_self_le (by omega)) Nat.lt_log2_self hab b1 hk hm
  rw [fx_i2f a (by omega) ha, fx_i2f b hb (by omega)]
  unfold FP.Core.quotient
  dsimp only
  rw [if_neg (by omega), show (false != false) = false from rfl]
  unfold FP.Core.roundRatio
  rw [if_neg (by omega)]
  unfold FP.Core.roundAt FP.Core.quantum
  rw [fx_leadA a4 b4, fx_q, show ((FP.Core.b32.p : Nat) : Int) = 24 from rfl]
  unfold FP.Core.unitsNum FP.Core.unitsDen
  rcases kk with ⟨c, e⟩ | ⟨c, e⟩
  · rw [if_pos c, show max (-149 : Int) (0 + ((a.log2 : Int) - 23 - ((b.log2 : Int) - 23)) - (24 - 1)) = -(k : Int) - 23 by omega]
    rw [show ((a.log2 : Int) - 23 - ((b.log2 : Int) - 23) - (-(k : Int) - 23)).toNat = 23 by omega, show (-(k : Int) - 23 - ((a.log2 : Int) - 23 - ((b.log2 : Int) - 23))).toNat = 0 by omega, Nat.pow_zero, Nat.mul_one]
    rw [show a * 2 ^ (23 - a.log2) * 2 ^ 23 = a * 2 ^ (k + 23) * 2 ^ (23 - b.log2) by rw [Nat.mul_assoc, Nat.mul_assoc, ← Nat.pow_add, ← Nat.pow_add, show 23 - a.log2 + 23 = k + 23 + (23 - b.log2) by omega], fx_scale (Nat.two_pow_pos _)]
  · rw [if_neg c, show max (-149 : Int) (-1 + ((a.log2 : Int) - 23 - ((b.log2 : Int) - 23)) - (24 - 1)) = -(k : Int) - 23 by omega]
    rw [show ((a.log2 : Int) - 23 - ((b.log2 : Int) - 23) - (-(k : Int) - 23)).toNat = 24 by omega, show (-(k : Int) - 23 - ((a.log2 : Int) - 23 - ((b.log2 : Int) - 23))).toNat = 0 by omega, Nat.pow_zero, Nat.mul_one]
    rw [show a * 2 ^ (23 - a.log2) * 2 ^ 24 = a * 2 ^ (k + 23) * 2 ^ (23 - b.log2) by rw [Nat.mul_assoc, Nat.mul_assoc, ← Nat.pow_add, ← Nat.pow_add, show 23 - a.log2 + 24 = k + 23 + (23 - b.log2) by omega], fx_scale (Nat.two_pow_pos _)]
theorem fx_nearB {n d : Nat} (h1 : 2 ^ 23 * d ≤ n) (h2 : n < 2 ^ 24 * d) : 2 ^ 23 ≤ n / d ∧ n / d < 2 ^ 24 ∧ n / d ≤ FP.Core.nearest n d ∧ FP.Core.nearest n d ≤ n / d + 1 := by
  have hd : 0 < d := by
    rcases Nat.eq_zero_or_pos d with z | z
    · subst z; omega
    · exact z
  refine ⟨(Nat.le_div_iff_mul_le hd).mpr h1, (Nat.div_lt_iff_lt_mul hd).mpr h2, ?_⟩
  unfold FP.Core.nearest
  have : n / d % 2 < 2 := Nat.mod_lt _ (by decide)
  by_cases c1 : 2 * (n % d) < d
  · rw [if_pos c1]; omega
  · rw [if_neg c1]
    by_cases c2 : d < 2 * (n % d)
    · rw [if_pos c2]; omega
    · rw [if_neg c2]; omega
def fxN (c k : Nat) : Nat := if c = 2 ^ 24 then (128 - k) * 2 ^ 23 + 0 else (127 - k) * 2 ^ 23 + (c - 2 ^ 23)
theorem fx_86 {k x y : Nat} (hk : k ≤ 100) (h1 : 2 ^ 23 ≤ y + x) (h2 : y + x ≤ 2 ^ 24) : bk_X7_bitsOf_86 (nI k) (lN x) (lN y) = some (nI (fxN (y + x) k)) := by
  unfold bk_X7_bitsOf_86 fxN
  rw [nmE, nmE, lN_add, show (127 : Int32) = nI 127 from rfl, pk_sub (by omega)]
  have e : lg_cmp (lN (y + x)) (16777216 : Int64) = 0 ↔ y + x = 16777216 := (lg_cmp_eq _ _).trans (pk_lEQ (b := 16777216) (by omega) (by omega))
  by_cases c : y + x = 2 ^ 24
  · rw [if_pos (e.mpr (by omega)), if_pos c, nmE, nI_1]
    unfold bk_X7_bitsOf_112
    rw [show (8388608 : Int64) - (8388608 : Int64) = lN 0 from by decide +kernel, lN_i, show (8388608 : Int32) = nI (2 ^ 23) from rfl, pk_mul, nI_add, show 127 - k + 1 = 128 - k by omega]
  · rw [if_neg (fun z => by have := e.mp z; omega), if_neg c]
    unfold bk_X7_bitsOf_112
    rw [show (8388608 : Int64) = lN (2 ^ 23) from rfl, lN_sub h1, lN_i, show (8388608 : Int32) = nI (2 ^ 23) from rfl, pk_mul, nI_add]
theorem fx_24 {a b k : Nat} (hb0 : 0 < b) (hb : b < 658) (ha : a < 658) (hk : k ≤ 10) (h1 : b ≤ a * 2 ^ k) (h2 : a * 2 ^ k < 2 * b) : bk_X7_bitsOf_24 (nI a) (nI b) (nI k) = some (nI (fxN (FP.Core.nearest (a * 2 ^ (k + 23)) b) k)) := by
  have en : a * 2 ^ (k + 23) = a * 2 ^ k * 2 ^ 23 := by rw [Nat.pow_add, Nat.mul_assoc]
  obtain ⟨q1, q2, q3, q4⟩ := fx_nearB (n := a * 2 ^ (k + 23)) (d := b) (by omega) (by omega)
  have hn : a * 2 ^ (k + 23) < 2 ^ 63 := by omega
  unfold bk_X7_bitsOf_24
  rw [nmE, show (23 : Int32) = nI 23 from rfl, nI_add, nI_l (show a < 2 ^ 31 by omega), nI_l (show b < 2 ^ 31 by omega), fx_shl a (k := k + 23) (by omega)]
  generalize a * 2 ^ (k + 23) = n at *
  have hz : ¬ lN b = 0 := fun z => by have := (pk_lEQ (b := 0) (by omega) (by omega)).mp z; omega
  have hr : n % b < b := Nat.mod_lt _ hb0
  rw [if_neg hz, nmE, if_neg hz, nmE, pk_lRem hn hb0 (by omega), pk_lDiv hn hb0 (by omega), show (2 : Int64) = lN 2 from rfl, lN_mul, pk_lRem (by omega) (by decide) (by decide)]
  have e1 : 0 < lg_cmp (lN (2 * (n % b))) (lN b) ↔ b < 2 * (n % b) := (lg_cmp_gt _ _).trans (pk_lLT (by omega) (by omega))
  have e2 : lg_cmp (lN (2 * (n % b))) (lN b) = 0 ↔ 2 * (n % b) = b := (lg_cmp_eq _ _).trans (pk_lEQ (by omega) (by omega))
  have e3 : lg_cmp (lN (n / b % 2)) (lN 1) = 0 ↔ n / b % 2 = 1 := (lg_cmp_eq _ _).trans (pk_lEQ (by omega) (by omega))
  unfold bk_X7_bitsOf_81 bk_X7_bitsOf_85
  rw [show (1 : Int64) = lN 1 from rfl, show (0 : Int64) = lN 0 from rfl, fx_86 (by omega) (by omega) (by omega), fx_86 (by omega) (by omega) (by omega)]
  unfold FP.Core.nearest
  by_cases c1 : b < 2 * (n % b)
  · rw [if_pos (e1.mpr c1), if_neg (show ¬ 2 * (n % b) < b by omega), if_pos c1]
  · rw [if_neg (fun z => c1 (e1.mp z))]
    by_cases c2 : 2 * (n % b) = b
    · rw [if_pos (e2.mpr c2), if_neg (show ¬ 2 * (n % b) < b by omega), if_neg c1]
      by_cases c3 : n / b % 2 = 1
      · rw [if_pos (e3.mpr c3), c3]
      · rw [if_neg (fun z => c3 (e3.mp z)), show n / b % 2 = 0 by omega]
    · rw [if_neg (fun z => c2 (e2.mp z)), if_pos (show 2 * (n % b) < b by omega), Nat.add_zero]
theorem fx_loop {a b k : Nat} (hb0 : 0 < b) (hb : b < 658) (ha : a < 658) (hk : k ≤ 10) (h1 : b ≤ a * 2 ^ k) (h2 : a * 2 ^ k < 2 * b) (hm : ∀ j, j < k → a * 2 ^ j < b) : ∀ (d j n2 : Nat), j + d = k → d < n2 → lp_X7_bitsOf_8 (nI a) (nI b) n2 (nI j) = some (nI (fxN (FP.Core.nearest (a * 2 ^ (k + 23)) b) k))
  | _, _, 0, _, h => by omega
  | 0, j, n2 + 1, hj, _ => by
    have : j = k := by omega
    subst this
    rw [le_X7_bitsOf_8]
    unfold bk_X7_bitsOf_8
    rw [nI_l (show a < 2 ^ 31 by omega), nI_l (show b < 2 ^ 31 by omega), fx_shl a (by omega), if_pos ((lg_cmp_ge _ _).mpr ((pk_lLE (by omega) (by omega)).mpr h1)), fx_24 hb0 hb ha hk h1 h2]
  | d + 1, j, n2 + 1, hj, hn => by
    have q := hm j (by omega)
    rw [le_X7_bitsOf_8]
    unfold bk_X7_bitsOf_8
    rw [nI_l (show a < 2 ^ 31 by omega), nI_l (show b < 2 ^ 31 by omega), fx_shl a (by omega), if_neg (fun z => by have := (pk_lLE (by omega) (by omega)).mp ((lg_cmp_ge _ _).mp z); omega), nmE, nI_1, fx_loop hb0 hb ha hk h1 h2 hm d (j + 1) n2 (by omega) (by omega)]
theorem fx_settle {c k : Nat} (hk : k ≤ 10) (h1 : 2 ^ 23 ≤ c) (h2 : c ≤ 2 ^ 24) : FP.Core.encode FP.Core.b32 (FP.Core.settle FP.Core.b32 false c (-(k : Int) - 23)) = fxN c k := by
  unfold FP.Core.settle FP.Core.bound fxN
  rw [show FP.Core.b32.p = 24 from rfl, show FP.Core.b32.qmax = 104 from rfl, fx_t, if_pos (show (-(k : Int) - 23) ≤ 104 by omega), if_pos (show (-(k : Int) - 23 + 1) ≤ 104 by omega)]
  by_cases e : c = 2 ^ 24
  · have := fx_enc (E := 128 - k) (T := 0) (by omega) (by decide)
    rw [show ((128 - k : Nat) : Int) - 150 = -(k : Int) - 23 + 1 by omega, Nat.add_zero] at this
    rw [if_neg (by omega), if_pos e, this]
  · have := fx_enc (E := 127 - k) (T := c - 2 ^ 23) (by omega) (by omega)
    rw [show ((127 - k : Nat) : Int) - 150 = -(k : Int) - 23 by omega, show 2 ^ 23 + (c - 2 ^ 23) = c by omega] at this
    rw [if_pos (by omega), if_neg e, this]
theorem fx_zero : ∀ n, n < 658 → 0 < n → FP.fdiv (FP.i2f (nI 0)) (FP.i2f (nI n)) = 0 := by decide +kernel
theorem fx_zbits : f_X6_bitsOf 0 = some 0 := by
  unfold f_X6_bitsOf
  rw [if_neg (by decide +kernel)]
theorem even_bits (a b : Nat) (hab : a ≤ b) (h0 : 0 < b) (hb : b ≤ 657) : ∃ r, bk_X6_evenness_48 (nI a) (nI b) = some r ∧ bk_X7_even_71 (nI a) (nI b) = some r := by
  unfold bk_X6_evenness_48 bk_X7_even_71
  rw [if_neg (nI_ne0 h0 (by omega)), if_neg (nI_ne0 h0 (by omega))]
  rcases Nat.eq_zero_or_pos a with z | ha
  · subst z
    rw [fx_zero b (by omega) h0, fx_zbits, if_pos (by decide)]
    refine ⟨0, rfl, ?_⟩
    unfold f_X7_bitsOf
    rw [if_pos (show nI 0 = (0 : Int32) from rfl)]
    rfl
  · obtain ⟨k, k1, k2⟩ := pk_least (fun k => b ≤ a * 2 ^ k) ⟨10, show b ≤ a * 2 ^ 10 by omega⟩
    have hm : ∀ j, j < k → a * 2 ^ j < b := fun j hj => Nat.lt_of_not_le (k2 j hj)
    have k1 : b ≤ a * 2 ^ k := k1
    have hk : k ≤ 10 := Nat.le_of_not_lt (fun q => by have := hm 10 q; omega)
    have hB : a * 2 ^ k < 2 * b ∧ (k = 0 → a = b) := by
      rcases Nat.eq_zero_or_pos k with z | z
      · subst z
        rw [Nat.pow_zero, Nat.mul_one] at k1 ⊢
        exact ⟨by omega, fun _ => by omega⟩
      · obtain ⟨k', rfl⟩ : ∃ k', k = k' + 1 := ⟨k - 1, by omega⟩
        have := hm k' (by omega)
        refine ⟨?_, fun z => by omega⟩
        rw [Nat.pow_succ, ← Nat.mul_assoc]
        omega
    have en : a * 2 ^ (k + 23) = a * 2 ^ k * 2 ^ 23 := by rw [Nat.pow_add, Nat.mul_assoc]
    obtain ⟨q1, q2, q3, q4⟩ := fx_nearB (n := a * 2 ^ (k + 23)) (d := b) (by omega) (by omega)
    have q5 : k = 0 → FP.Core.nearest (a * 2 ^ (k + 23)) b < 2 ^ 24 := fun z => by
      have := hB.2 z
      subst this
      subst z
      unfold FP.Core.nearest
      rw [Nat.mul_mod_right, Nat.mul_div_cancel_left _ ha, if_pos (by omega)]
      exact Nat.pow_lt_pow_right (by decide) (by decide)
    have ef : FP.fdiv (FP.i2f (nI a)) (FP.i2f (nI b)) = UInt32.ofNat (fxN (FP.Core.nearest (a * 2 ^ (k + 23)) b) k) := by
      show UInt32.ofNat (FP.Core.div FP.Core.b32 (FP.i2f (nI a)).toNat (FP.i2f (nI b)).toNat) = _
      unfold FP.Core.div
      rw [fx_quot ha hab (by omega) k1 hm hk, fx_settle hk (by omega) (by omega)]
    have er : f_X7_bitsOf (nI a) (nI b) = some (nI (fxN (FP.Core.nearest (a * 2 ^ (k + 23)) b) k)) := by
      unfold f_X7_bitsOf
      rw [if_neg (nI_ne0 ha (by omega))]
      exact fx_loop h0 (by omega) (by omega) hk k1 hB.1 hm k 0 1000 (by omega) (by omega)
    rw [ef, er]
    generalize FP.Core.nearest (a * 2 ^ (k + 23)) b = c at *
    have ex : f_X6_bitsOf (UInt32.ofNat (fxN c k)) = some (nI (fxN c k)) ∧ fxN c k ≤ 0x7f800000 := by
      unfold fxN
      by_cases e : c = 2 ^ 24
      · have : k ≠ 0 := fun z => by have := q5 z; omega
        rw [if_pos e]
        exact ⟨fx_bitsOf (by omega) (by omega) (by decide), by omega⟩
      · rw [if_neg e]
        exact ⟨fx_bitsOf (by omega) (by omega) (by omega), by omega⟩
    rw [if_pos (fx_nn ex.2), ex.1]
    exact ⟨_, rfl, rfl⟩
