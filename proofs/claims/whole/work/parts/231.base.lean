/-! LOOPS AND SMALL NUMBERS -/
theorem lp_up0 {R : Type} (lp : Nat → Int32 → Option R) (cnt : Nat) (res : Option R) (hx : ∀ n, lp (n + 1) (nI cnt) = res) (hs : ∀ n j, j < cnt → lp (n + 1) (nI j) = lp n (nI (j + 1))) : ∀ n j, j ≤ cnt → cnt - j < n → lp n (nI j) = res := by
  intro n
  induction n with
  | zero => intro j _ h; omega
  | succ n ih =>
    intro j h1 h2
    rcases Nat.lt_or_ge j cnt with h | h
    · rw [hs n j h]; exact ih (j + 1) h (by omega)
    · rw [show j = cnt by omega]; exact hx n
theorem lp_up1 {β R : Type} (lp : Nat → β → Int32 → Option R) (st : Nat → β) (cnt : Nat) (res : Option R) (hx : ∀ n, lp (n + 1) (st cnt) (nI cnt) = res) (hs : ∀ n j, j < cnt → lp (n + 1) (st j) (nI j) = lp n (st (j + 1)) (nI (j + 1))) : ∀ n j, j ≤ cnt → cnt - j < n → lp n (st j) (nI j) = res := by
  intro n
  induction n with
  | zero => intro j _ h; omega
  | succ n ih =>
    intro j h1 h2
    rcases Nat.lt_or_ge j cnt with h | h
    · rw [hs n j h]; exact ih (j + 1) h (by omega)
    · rw [show j = cnt by omega]; exact hx n
theorem lp_up2 {β γ R : Type} (lp : Nat → β → γ → Int32 → Option R) (s1 : Nat → β) (s2 : Nat → γ) (cnt : Nat) (res : Option R) (hx : ∀ n, lp (n + 1) (s1 cnt) (s2 cnt) (nI cnt) = res) (hs : ∀ n j, j < cnt → lp (n + 1) (s1 j) (s2 j) (nI j) = lp n (s1 (j + 1)) (s2 (j + 1)) (nI (j + 1))) : ∀ n j, j ≤ cnt → cnt - j < n → lp n (s1 j) (s2 j) (nI j) = res := by
  intro n
  induction n with
  | zero => intro j _ h; omega
  | succ n ih =>
    intro j h1 h2
    rcases Nat.lt_or_ge j cnt with h | h
    · rw [hs n j h]; exact ih (j + 1) h (by omega)
    · rw [show j = cnt by omega]; exact hx n
theorem kz_neg {n : Nat} (h : n < 2 ^ 31) : (nI n < 0) = False := eq_false (nI_pos h)
theorem kz_le {a b : Nat} (ha : a < 2 ^ 31) (hb : b < 2 ^ 31) : (nI a ≤ nI b) = (a ≤ b) := propext (nI_leI ha hb)
theorem kz_lt {a b : Nat} (ha : a < 2 ^ 31) (hb : b < 2 ^ 31) : (nI a < nI b) = (a < b) := propext (nI_ltI ha hb)
theorem kz_eq {a b : Nat} (ha : a < 2 ^ 31) (hb : b < 2 ^ 31) : (nI a = nI b) = (a = b) := propext (nI_eq ha hb)
theorem kz_cl {n : Nat} (h : n < 2 ^ 31) : Int32.toNatClampNeg (nI n) = n := nI_clamp h
/-- an index that is there -/
theorem kz_ix {α : Type} {i n : Nat} {x : Option α} (h : i < n) (h2 : i < 2 ^ 31) : (if (nI i < 0 ∨ n ≤ Int32.toNatClampNeg (nI i)) then none else x) = x := by
  rw [kz_cl h2, if_neg]
  intro q
  rcases q with q | q
  · exact nI_pos h2 q
  · omega
theorem kb_bit : ∀ k, k < 8 → (1 : Int32) <<< (nI k &&& 31) = nI (2 ^ k) := by decide +kernel
theorem kb_bits (a : Nat) {i : Nat} (hi : i < 32) : bt (nI a) i = a.testBit i := by
  unfold bt nI
  show (BitVec.ofNat 32 a).getLsbD i = _
  rw [BitVec.getLsbD_ofNat]
  simp [hi]
theorem kb_shr {a k : Nat} (ha : a < 2 ^ 31) (hk : k < 32) : nI a >>> (nI k &&& 31) = nI (a / 2 ^ k) := pk_shrN ha _ k (s_l k hk)
theorem kb_and1 (a : Nat) : nI a &&& (1 : Int32) = nI (a % 2) := by
  have h : (1 : Int32) = nI (2 ^ 1 - 1) := rfl
  rw [h, fa_mask]
theorem kb_has {a k : Nat} (ha : a < 2 ^ 31) (hk : k < 32) : ((nI a >>> (nI k &&& 31)) &&& (1 : Int32)) = nI (a / 2 ^ k % 2) := by rw [kb_shr ha hk, kb_and1]
theorem kb_tb (a k : Nat) : a / 2 ^ k % 2 = if a.testBit k then 1 else 0 := by
  rw [Nat.testBit_eq_decide_div_mod_eq]
  by_cases h : a / 2 ^ k % 2 = 1
  · simp [h]
  · simp [h]; omega
theorem kb_has0 {a k : Nat} (ha : a < 2 ^ 31) (hk : k < 32) : (((nI a >>> (nI k &&& 31)) &&& (1 : Int32)) = 0) = (a.testBit k = false) := by
  rw [kb_has ha hk, kb_tb]
  cases a.testBit k <;> simp <;> decide
theorem kb_has1 {a k : Nat} (ha : a < 2 ^ 31) (hk : k < 32) : (((nI a >>> (nI k &&& 31)) &&& (1 : Int32)) = 1) = (a.testBit k = true) := by
  rw [kb_has ha hk, kb_tb]
  cases a.testBit k <;> simp <;> decide
theorem kb_andn {a b : Nat} (ha : a < 256) : nI a &&& (nI b ^^^ (-1 : Int32)) = nI (a &&& (255 ^^^ b)) := by
  apply b_ext
  intro i hi
  rw [b_and, b_xor, b_m1 i hi, kb_bits a hi, kb_bits b hi, kb_bits _ hi, Nat.testBit_and, Nat.testBit_xor]
  have h2 : (255 : Nat).testBit i = decide (i < 8) := by
    have := Nat.testBit_two_pow_sub_one 8 i
    simpa using this
  rw [h2]
  by_cases h8 : i < 8
  · simp [h8]
  · have : a.testBit i = false := Nat.testBit_lt_two_pow (Nat.lt_of_lt_of_le ha (by
      calc 256 = 2 ^ 8 := by decide
        _ ≤ 2 ^ i := Nat.pow_le_pow_right (by decide) (by omega)))
    simp [this]
theorem lz_0 : (0 : Int32) = nI 0 := rfl
theorem lz_1 : (1 : Int32) = nI 1 := rfl
theorem lz_2 : (2 : Int32) = nI 2 := rfl
theorem lz_3 : (3 : Int32) = nI 3 := rfl
theorem lz_4 : (4 : Int32) = nI 4 := rfl
theorem lz_5 : (5 : Int32) = nI 5 := rfl
theorem lz_6 : (6 : Int32) = nI 6 := rfl
theorem lz_7 : (7 : Int32) = nI 7 := rfl
theorem lz_8 : (8 : Int32) = nI 8 := rfl
theorem lz_9 : (9 : Int32) = nI 9 := rfl
theorem lz_10 : (10 : Int32) = nI 10 := rfl
theorem lz_11 : (11 : Int32) = nI 11 := rfl
theorem lz_12 : (12 : Int32) = nI 12 := rfl
theorem lz_13 : (13 : Int32) = nI 13 := rfl
theorem lz_14 : (14 : Int32) = nI 14 := rfl
theorem lz_15 : (15 : Int32) = nI 15 := rfl
theorem lz_16 : (16 : Int32) = nI 16 := rfl
theorem lz_17 : (17 : Int32) = nI 17 := rfl
theorem lz_18 : (18 : Int32) = nI 18 := rfl
theorem lz_20 : (20 : Int32) = nI 20 := rfl
theorem lz_22 : (22 : Int32) = nI 22 := rfl
theorem lz_23 : (23 : Int32) = nI 23 := rfl
theorem lz_24 : (24 : Int32) = nI 24 := rfl
theorem lz_26 : (26 : Int32) = nI 26 := rfl
theorem lz_30 : (30 : Int32) = nI 30 := rfl
theorem lz_31 : (31 : Int32) = nI 31 := rfl
theorem lz_32 : (32 : Int32) = nI 32 := rfl
theorem lz_46 : (46 : Int32) = nI 46 := rfl
theorem lz_47 : (47 : Int32) = nI 47 := rfl
theorem lz_48 : (48 : Int32) = nI 48 := rfl
theorem lz_50 : (50 : Int32) = nI 50 := rfl
theorem lz_58 : (58 : Int32) = nI 58 := rfl
theorem lz_59 : (59 : Int32) = nI 59 := rfl
theorem lz_60 : (60 : Int32) = nI 60 := rfl
theorem lz_61 : (61 : Int32) = nI 61 := rfl
theorem lz_63 : (63 : Int32) = nI 63 := rfl
theorem lz_64 : (64 : Int32) = nI 64 := rfl
theorem lz_76 : (76 : Int32) = nI 76 := rfl
theorem lz_78 : (78 : Int32) = nI 78 := rfl
theorem lz_81 : (81 : Int32) = nI 81 := rfl
theorem lz_99 : (99 : Int32) = nI 99 := rfl
theorem lz_100 : (100 : Int32) = nI 100 := rfl
theorem lz_102 : (102 : Int32) = nI 102 := rfl
theorem lz_115 : (115 : Int32) = nI 115 := rfl
theorem lz_119 : (119 : Int32) = nI 119 := rfl
theorem lz_126 : (126 : Int32) = nI 126 := rfl
theorem lz_127 : (127 : Int32) = nI 127 := rfl
theorem lz_255 : (255 : Int32) = nI 255 := rfl
theorem lz_256 : (256 : Int32) = nI 256 := rfl
theorem lz_999 : (999 : Int32) = nI 999 := rfl
theorem lz_1000 : (1000 : Int32) = nI 1000 := rfl
theorem lz_10000 : (10000 : Int32) = nI 10000 := rfl
theorem lz_65536 : (65536 : Int32) = nI 65536 := rfl
theorem lz_8388608 : (8388608 : Int32) = nI 8388608 := rfl
theorem kz_ix2 {α : Type} {i n : Nat} {x : Option α} (h : i < n) : (if (i < 0 ∨ n ≤ i) then none else x) = x := if_neg (by omega)
theorem lp_up3e {β γ δ R : Type} (lp : Nat → β → γ → δ → Int32 → Option R) (s1 : Nat → β) (s2 : Nat → γ) (s3 : Nat → δ) (cnt e : Nat) (res : Option R) (hx : ∀ n, lp (n + 1 + e) (s1 cnt) (s2 cnt) (s3 cnt) (nI cnt) = res) (hs : ∀ n j, j < cnt → lp (n + 1) (s1 j) (s2 j) (s3 j) (nI j) = lp n (s1 (j + 1)) (s2 (j + 1)) (s3 (j + 1)) (nI (j + 1))) : ∀ n j, j ≤ cnt → cnt - j + e < n → lp n (s1 j) (s2 j) (s3 j) (nI j) = res := by
  intro n
  induction n with
  | zero => intro j _ h; omega
  | succ n ih =>
    intro j h1 h2
    rcases Nat.lt_or_ge j cnt with h | h
    · rw [hs n j h]; exact ih (j + 1) h (by omega)
    · rw [show j = cnt by omega, show n + 1 = (n - e) + 1 + e by omega]; exact hx (n - e)
/-- the numbers below 0 -/
def nN (k : Nat) : Int32 := -nI k
theorem nz_all (k : Nat) : -nI k = nN k := rfl
theorem nN_toInt {k : Nat} (h : k < 2 ^ 31) : (nN k).toInt = -(k : Int) := by
  unfold nN
  rw [Int32.toInt_neg, nI_toInt h]
  first | exact Int.bmod_eq_of_le (by omega) (by omega) | (simp only [Int.bmod]; split <;> omega)
theorem nz_eq {a k : Nat} (ha : a < 2 ^ 31) (h0 : 0 < k) (hk : k < 2 ^ 31) : (nI a = nN k) = False := by
  rw [fa_eq, nI_toInt ha, nN_toInt hk]
  exact eq_false (by omega)
theorem nz_eq2 {a k : Nat} (ha : a < 2 ^ 31) (h0 : 0 < k) (hk : k < 2 ^ 31) : (nN k = nI a) = False := by
  rw [fa_eq, nI_toInt ha, nN_toInt hk]
  exact eq_false (by omega)
theorem nz_le {a k : Nat} (ha : a < 2 ^ 31) (h0 : 0 < k) (hk : k < 2 ^ 31) : (nI a ≤ nN k) = False := by
  rw [fa_le, nI_toInt ha, nN_toInt hk]
  exact eq_false (by omega)
