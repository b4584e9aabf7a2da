/-! FRACTIONS -/
theorem gcd_st (x y : Nat) : Nat.gcd x y = Nat.gcd y (x % y) := by rw [Nat.gcd_comm x y, Nat.gcd_rec y x, Nat.gcd_comm]
theorem half_mod {y z : Nat} (h0 : 0 < z) (h : z < y) : 2 * (y % z) < y := by
  have h1 := Nat.mod_lt y h0
  have h2 := Nat.div_add_mod y z
  have h3 : 1 ≤ y / z := (Nat.le_div_iff_mul_le h0).mpr (by omega)
  have h4 : z ≤ z * (y / z) := Nat.le_mul_of_pos_right z h3
  omega
theorem x_gcd : ∀ (k x y c n2 : Nat), y < 2 ^ k → k ≤ 31 → x < 2 ^ 31 → c + 2 * k ≤ 63 → 2 * k < n2 → lp_X6_greatestDivisor_7 n2 (nI x) (nI y) (nI c) = some (nI (Nat.gcd x y))
  | 0, x, y, c, 0, _, _, _, _, h => by omega
  | 0, x, y, c, n2 + 1, hy, _, hx, hc, _ => by
    have : y = 0 := by rw [Nat.pow_zero] at hy; omega
    subst this
    rw [le_X6_greatestDivisor_7]
    unfold bk_X6_greatestDivisor_7
    rw [if_neg (show ¬ (64 : Int32) ≤ nI c from nI_ge (b := 64) (by omega) (by omega)), if_pos (show nI 0 = (0 : Int32) from rfl), Nat.gcd_zero_right]
  | k + 1, x, y, c, 0, _, _, _, _, h => by omega
  | k + 1, x, y, c, 1, _, _, _, _, h => by omega
  | k + 1, x, y, c, n2 + 2, hy, hk, hx, hc, hn => by
    have hyl : y < 2 ^ 31 := Nat.lt_of_lt_of_le hy (Nat.pow_le_pow_right (by omega) hk)
    rw [le_X6_greatestDivisor_7]
    unfold bk_X6_greatestDivisor_7
    rw [if_neg (show ¬ (64 : Int32) ≤ nI c from nI_ge (b := 64) (by omega) (by omega))]
    rcases Nat.eq_zero_or_pos y with z | z
    · subst z
      rw [if_pos (show nI 0 = (0 : Int32) from rfl), Nat.gcd_zero_right]
    · have hm := Nat.mod_lt x z
      rw [if_neg (nI_ne0 z hyl), if_neg (nI_ne0 z hyl), pk_rem hx z hyl, gcd_st]
      simp only [nm_, nI_1]
      rw [le_X6_greatestDivisor_7]
      unfold bk_X6_greatestDivisor_7
      rw [if_neg (show ¬ (64 : Int32) ≤ nI (c + 1) from nI_ge (b := 64) (by omega) (by omega))]
      rcases Nat.eq_zero_or_pos (x % y) with z2 | z2
      · rw [z2, if_pos (show nI 0 = (0 : Int32) from rfl), Nat.gcd_zero_right]
      · rw [if_neg (nI_ne0 z2 (by omega)), if_neg (nI_ne0 z2 (by omega)), pk_rem hyl z2 (by omega), gcd_st]
        simp only [nm_, nI_1]
        have hh := half_mod z2 hm
        rw [Nat.pow_succ] at hy
        exact x_gcd k (x % y) (y % (x % y)) (c + 2) n2 (by omega) (by omega) (by omega) (by omega) (by omega)
theorem m_gcd : ∀ (k x y n2 : Nat), y < 2 ^ k → k ≤ 31 → x < 2 ^ 31 → 2 * k < n2 → lp_X7_divisor_13 n2 (nI x) (nI y) = some (nI (Nat.gcd x y))
  | 0, x, y, 0, _, _, _, h => by omega
  | 0, x, y, n2 + 1, hy, _, hx, _ => by
    have : y = 0 := by rw [Nat.pow_zero] at hy; omega
    subst this
    rw [le_X7_divisor_13]
    unfold bk_X7_divisor_13
    rw [if_pos (show nI 0 = (0 : Int32) from rfl), Nat.gcd_zero_right]
  | k + 1, x, y, 0, _, _, _, h => by omega
  | k + 1, x, y, 1, _, _, _, h => by omega
  | k + 1, x, y, n2 + 2, hy, hk, hx, hn => by
    have hyl : y < 2 ^ 31 := Nat.lt_of_lt_of_le hy (Nat.pow_le_pow_right (by omega) hk)
    rw [le_X7_divisor_13]
    unfold bk_X7_divisor_13
    rcases Nat.eq_zero_or_pos y with z | z
    · subst z
      rw [if_pos (show nI 0 = (0 : Int32) from rfl), Nat.gcd_zero_right]
    · have hm := Nat.mod_lt x z
      rw [if_neg (nI_ne0 z hyl), if_neg (nI_ne0 z hyl), pk_rem hx z hyl, gcd_st]
      simp only [nm_]
      rw [le_X7_divisor_13]
      unfold bk_X7_divisor_13
      rcases Nat.eq_zero_or_pos (x % y) with z2 | z2
      · rw [z2, if_pos (show nI 0 = (0 : Int32) from rfl), Nat.gcd_zero_right]
      · rw [if_neg (nI_ne0 z2 (by omega)), if_neg (nI_ne0 z2 (by omega)), pk_rem hyl z2 (by omega), gcd_st]
        simp only [nm_]
        have hh := half_mod z2 hm
        rw [Nat.pow_succ] at hy
        exact m_gcd k (x % y) (y % (x % y)) n2 (by omega) (by omega) (by omega) (by omega)
/-- the top or the bottom of a fraction in lowest terms -/
def frN (a b : Nat) (w : Int32) : Nat := if w = 0 then b / Nat.gcd a b else a / Nat.gcd a b
theorem x_told {a b : Nat} (ha : a < 2 ^ 31) (hb : b < 2 ^ 31) (h0 : 0 < b) (w : Int32) : f_X6_told (nI a) (nI b) w = some (nI (frN a b w)) := by
  have hg := Nat.gcd_pos_of_pos_right a h0
  have hg2 := Nat.gcd_le_right a h0
  unfold f_X6_told f_X6_greatestDivisor
  have key := x_gcd 31 b a 0 1000 ha (by omega) hb (by omega) (by omega)
  rw [show nI 0 = (0 : Int32) from rfl, Nat.gcd_comm] at key
  rw [key, Option.bind_some, if_pos (show (1 : Int32) ≤ nI (Nat.gcd a b) from nI_le (a := 1) hg (by omega)), if_neg (nI_ne0 hg (by omega)), if_neg (nI_ne0 hg (by omega)), pk_div hb hg (by omega), pk_div ha hg (by omega)]
  unfold frN
  split <;> rfl
theorem m_fraction {a b : Nat} (ha : a < 2 ^ 31) (hb : b < 2 ^ 31) (h0 : 0 < b) (w : Int32) : f_X7_fraction (nI a) (nI b) w = some (nI (frN a b w)) := by
  have hg := Nat.gcd_pos_of_pos_right a h0
  have hg2 := Nat.gcd_le_right a h0
  unfold f_X7_fraction f_X7_divisor
  have key := m_gcd 31 a b 1000 hb (by omega) ha (by omega)
  rw [if_pos (show (0 : Int32) ≤ nI a from nI_le (a := 0) (by omega) ha), key, Option.bind_some, if_neg (nI_ne0 hg (by omega)), if_neg (nI_ne0 hg (by omega)), pk_div hb hg (by omega), pk_div ha hg (by omega)]
  unfold frN
  split <;> rfl
