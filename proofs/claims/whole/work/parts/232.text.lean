/-! THE TEXT: which letter fits; the class -/
def inR (c : Nat → Nat) (i lo hi : Nat) : Bool := decide (48 + lo ≤ c i ∧ c i ≤ 48 + hi)
def cnP (c : Nat → Nat) (x k : Nat) : Nat := fb_ct (fun j => c (12 + 5 * j) == x) k
def moP (x : Nat) : Nat := if x = 115 then 8 else if x = 102 then 6 else if x = 119 then 5 else 0
def fitP (c : Nat → Nat) (i r : Nat) : Bool := if c (i - r) = 119 then inR c i 0 6 && !(decide (r = 4) && (c i == c (i - 2) && c (i - 1) == c (i - 3))) else if 2 < r then inR c i (if c (i - r) = 115 then 1 else 0) 9 else inR c i 0 5
def fitS (c : Nat → Nat) (i : Nat) : Bool := if i = 0 then c 0 == 76 else if 12 ≤ i then (if (i - 12) % 5 = 0 then decide (cnP c (c i) ((i - 12) / 5) < moP (c i)) else fitP c i ((i - 12) % 5)) else inR c i 0 9
def fFF (c : Nat → Nat) (n : Nat) : Int32 := if fa_first (fun i => !fitS c i) n < n then nI (fa_first (fun i => !fitS c i) n) else if 12 ≤ n ∧ (n - 12) % 5 = 0 then -9 else nI n
/-- the row of letters holds the text c of n letters -/
def holdT (T : Nat → Int32) (c : Nat → Nat) (n : Nat) : Prop := n ≤ 99 ∧ ∀ i, i < n → T i = nI (c i) ∧ c i < 256
theorem kz_b01 (b : Bool) : ((if b then (1 : Int32) else 0) = 0) = (b = false) := by cases b <;> simp
theorem kz_b1 (b : Bool) : ((if b then (1 : Int32) else 0) &&& 1 = (if b then (1 : Int32) else 0)) = True := by cases b <;> simp
theorem kz_char {x : Nat} (h : x < 256) : (Int32.toUInt32 (nI x)).toUInt16.toUInt32.toInt32 = nI x := by
  have : ∀ x, x < 256 → (Int32.toUInt32 (nI x)).toUInt16.toUInt32.toInt32 = nI x := by decide +kernel
  exact this x h
theorem kz_sub_lt {a b c : Nat} (ha : a < 2 ^ 29) (hb : b < 2 ^ 29) (hc : c < 2 ^ 29) : (nI a - nI b < nI c) = (a < b + c) := by
  rw [fa_lt, pk_sub_toInt (by omega) (by omega), nI_toInt (by omega)]
  exact propext ⟨fun h => by omega, fun h => by omega⟩
theorem kz_lt_sub {a b c : Nat} (ha : a < 2 ^ 29) (hb : b < 2 ^ 29) (hc : c < 2 ^ 29) : (nI c < nI a - nI b) = (b + c < a) := by
  rw [fa_lt, pk_sub_toInt (by omega) (by omega), nI_toInt (by omega)]
  exact propext ⟨fun h => by omega, fun h => by omega⟩
section TX
variable {T : Nat → Int32} {c : Nat → Nat} {n : Nat}
theorem x_letterAt (h : holdT T c n) {i : Nat} (hi : i < n) : f_X5_letterAt (nI n) T (nI i) = some (nI (c i)) := by
  obtain ⟨hn, hc⟩ := h
  unfold f_X5_letterAt
  simp (disch := omega) only [kz_le, kz_lt, kz_eq, kz_cl, nI_add, pk_mul, pk_sub, Option.bind_some, nm_, if_pos, if_neg, if_true, if_false, kz_ix2, nz_all, nz_eq, nz_le, nz_eq2, lz_0, lz_1, lz_2, lz_3, lz_4, lz_5, lz_6, lz_7, lz_8, lz_9, lz_10, lz_11, lz_12, lz_13, lz_14, lz_15, lz_16, lz_17, lz_18, lz_20, lz_22, lz_23, lz_24, lz_26, lz_30, lz_31, lz_32, lz_46, lz_47, lz_48, lz_50, lz_58, lz_59, lz_60, lz_61, lz_63, lz_64, lz_76, lz_78, lz_81, lz_99, lz_100, lz_102, lz_115, lz_119, lz_126, lz_127, lz_255, lz_256, lz_999, lz_1000, lz_10000, lz_65536, lz_8388608]
  rw [(hc i hi).1, if_pos (kz_char (hc i hi).2)]
theorem x_figureAt (h : holdT T c n) {i : Nat} (hi : i < n) : f_X5_figureAt (nI n) T (nI i) = some (nI (c i) - nI 48) := by
  unfold f_X5_figureAt
  rw [x_letterAt h hi]
  rfl
theorem x_isWithin (h : holdT T c n) {i lo hi : Nat} (hi0 : i < n) (hlo : lo ≤ 9) (hhi : hi ≤ 9) : f_X5_isWithin (nI n) T (nI i) (nI lo) (nI hi) = some (if inR c i lo hi then 1 else 0) := by
  unfold f_X5_isWithin
  have hc := (h.2 i hi0).2
  rw [x_figureAt h hi0]
  show (if nI (c i) - nI 48 < nI lo then some 0 else if nI hi < nI (c i) - nI 48 then some 0 else some 1) = _
  simp (disch := omega) only [kz_sub_lt, kz_lt_sub]
  unfold inR
  by_cases h1 : c i < 48 + lo
  · rw [if_pos h1, if_neg (by simp; omega)]
  · rw [if_neg h1]
    by_cases h2 : 48 + hi < c i
    · rw [if_pos h2, if_neg (by simp; omega)]
    · rw [if_neg h2, if_pos (by simp; omega)]
theorem x_ends (h : holdT T c n) {i : Nat} (hi : i < n) (h3 : 3 ≤ i) : f_X5_endsWhereItBegins (nI n) T (nI i) = some (if (c i == c (i - 2) && c (i - 1) == c (i - 3)) then 1 else 0) := by
  have hn := h.1
  unfold f_X5_endsWhereItBegins
  rw [show (2 : Int32) = nI 2 from rfl, show (1 : Int32) = nI 1 from rfl, show (3 : Int32) = nI 3 from rfl, pk_sub (by omega), pk_sub (by omega), pk_sub (by omega), x_letterAt h hi, x_letterAt h (by omega), x_letterAt h (by omega), x_letterAt h (by omega)]
  have a1 := (h.2 i hi).2
  have a2 := (h.2 (i - 2) (by omega)).2
  have a3 := (h.2 (i - 1) (by omega)).2
  have a4 := (h.2 (i - 3) (by omega)).2
  show (if nI (c i) = nI (c (i - 2)) then (if nI (c (i - 1)) = nI (c (i - 3)) then some 1 else some 0) else some 0) = _
  simp (disch := omega) only [kz_eq]
  by_cases e1 : c i = c (i - 2) <;> by_cases e2 : c (i - 1) = c (i - 3) <;> simp [e1, e2, nI]
theorem x_fitsInPart (h : holdT T c n) {i r : Nat} (hi : i < n) (h3 : r ≤ i) (hr : r ≤ 4) (h4 : r = 4 → 3 ≤ i) : f_X5_fitsInPart (nI n) T (nI i) (nI r) = some (if fitP c i r then 1 else 0) := by
  have hn := h.1
  have a1 := (h.2 (i - r) (by omega)).2
  unfold f_X5_fitsInPart bk_X5_fitsInPart_70
  rw [pk_sub h3, x_letterAt h (by omega)]
  simp only [Option.bind_some, show (119 : Int32) = nI 119 from rfl, show (115 : Int32) = nI 115 from rfl, show (2 : Int32) = nI 2 from rfl, show (4 : Int32) = nI 4 from rfl]
  simp (disch := omega) only [kz_eq, kz_lt]
  have w1 := x_isWithin h hi (lo := 0) (hi := 6) (by omega) (by omega)
  have w2 := x_isWithin h hi (lo := 1) (hi := 9) (by omega) (by omega)
  have w3 := x_isWithin h hi (lo := 0) (hi := 9) (by omega) (by omega)
  have w4 := x_isWithin h hi (lo := 0) (hi := 5) (by omega) (by omega)
  rw [show (0 : Int32) = nI 0 from rfl, show (6 : Int32) = nI 6 from rfl, show (9 : Int32) = nI 9 from rfl, show (1 : Int32) = nI 1 from rfl, show (5 : Int32) = nI 5 from rfl, w1, w2, w3, w4]
  simp only [Option.bind_some, show nI 0 = (0 : Int32) from rfl, show nI 1 = (1 : Int32) from rfl, kz_b01, kz_b1, if_true]
  unfold fitP
  by_cases e1 : c (i - r) = 119
  · rw [if_pos e1, if_pos e1]
    cases e2 : inR c i 0 6
    · simp
    · rw [if_neg (by simp)]
      by_cases e3 : r = 4
      · rw [if_pos e3, x_ends h hi (h4 e3)]
        simp only [Option.bind_some, kz_b01, e3, decide_true, Bool.true_and]
        cases (c i == c (i - 2) && c (i - 1) == c (i - 3)) <;> simp
      · rw [if_neg e3]
        simp [e3]
  · rw [if_neg e1, if_neg e1]
    by_cases e2 : 2 < r
    · rw [if_pos e2, if_pos e2]
      by_cases e3 : c (i - r) = 115
      · rw [if_pos e3, if_pos e3]
      · rw [if_neg e3, if_neg e3]
    · rw [if_neg e2, if_neg e2]
theorem x_partsAhead (h : holdT T c n) {x k : Nat} (hx : x < 256) (hk : 12 + 5 * k ≤ n) : f_X5_partsAhead (nI n) T (nI x) (nI (12 + 5 * k)) = some (nI (cnP c x k)) := by
  have hn := h.1
  unfold f_X5_partsAhead
  have key := lp_up1 (fun n2 a i => lp_X5_partsAhead_6 (nI n) T (nI x) (nI (12 + 5 * k)) n2 a (nI 12 + nI 5 * i)) (fun j => nI (cnP c x j)) k (some (nI (cnP c x k))) (fun n2 => ?_) (fun n2 j hj => ?_) 1000 0 (by omega) (by omega)
  · exact key
  · rw [le_X5_partsAhead_6]
    unfold bk_X5_partsAhead_6
    rw [pk_mul, nI_add, if_pos (nI_le (Nat.le_refl _) (by omega))]
  · rw [le_X5_partsAhead_6]
    unfold bk_X5_partsAhead_6
    have a1 := (h.2 (12 + 5 * j) (by omega)).2
    rw [pk_mul, nI_add, x_letterAt h (by omega)]
    simp (disch := omega) only [kz_le, kz_lt, kz_eq, kz_cl, nI_add, pk_mul, pk_sub, Option.bind_some, nm_, if_pos, if_neg, if_true, if_false, kz_ix2, nz_all, nz_eq, nz_le, nz_eq2, lz_0, lz_1, lz_2, lz_3, lz_4, lz_5, lz_6, lz_7, lz_8, lz_9, lz_10, lz_11, lz_12, lz_13, lz_14, lz_15, lz_16, lz_17, lz_18, lz_20, lz_22, lz_23, lz_24, lz_26, lz_30, lz_31, lz_32, lz_46, lz_47, lz_48, lz_50, lz_58, lz_59, lz_60, lz_61, lz_63, lz_64, lz_76, lz_78, lz_81, lz_99, lz_100, lz_102, lz_115, lz_119, lz_126, lz_127, lz_255, lz_256, lz_999, lz_1000, lz_10000, lz_65536, lz_8388608]
    by_cases e : c (12 + 5 * j) = x
    · rw [if_pos e]
      have : cnP c x (j + 1) = cnP c x j + 1 := by unfold cnP; rw [fb_ct_succ]; simp [e]
      rw [this, show 12 + 5 * (j + 1) = 12 + 5 * j + 5 by omega]
    · rw [if_neg e]
      have : cnP c x (j + 1) = cnP c x j := by unfold cnP; rw [fb_ct_succ]; simp [e]
      rw [this, show 12 + 5 * (j + 1) = 12 + 5 * j + 5 by omega]
theorem x_mostParts {x : Nat} (hx : x < 256) : f_X5_mostParts (nI x) = some (nI (moP x)) := by
  unfold f_X5_mostParts moP
  simp (disch := omega) only [kz_le, kz_lt, kz_eq, kz_cl, nI_add, pk_mul, pk_sub, Option.bind_some, nm_, kz_ix2, nz_all, nz_eq, nz_le, nz_eq2, lz_0, lz_1, lz_2, lz_3, lz_4, lz_5, lz_6, lz_7, lz_8, lz_9, lz_10, lz_11, lz_12, lz_13, lz_14, lz_15, lz_16, lz_17, lz_18, lz_20, lz_22, lz_23, lz_24, lz_26, lz_30, lz_31, lz_32, lz_46, lz_47, lz_48, lz_50, lz_58, lz_59, lz_60, lz_61, lz_63, lz_64, lz_76, lz_78, lz_81, lz_99, lz_100, lz_102, lz_115, lz_119, lz_126, lz_127, lz_255, lz_256, lz_999, lz_1000, lz_10000, lz_65536, lz_8388608]
  by_cases h1 : x = 115
  · simp [h1]
  · by_cases h2 : x = 102
    · simp [h2]
    · by_cases h3 : x = 119
      · simp [h3]
      · simp [h1, h2, h3]
theorem cnP_le (c : Nat → Nat) (x k : Nat) : cnP c x k ≤ k := fb_ct_le _ _
theorem moP_le (x : Nat) : moP x ≤ 8 := by
  unfold moP
  repeat' split
  all_goals omega
theorem x_mayBegin (h : holdT T c n) {k : Nat} (hk : 12 + 5 * k < n) : f_X5_mayBegin (nI n) T (nI (12 + 5 * k)) = some (if decide (cnP c (c (12 + 5 * k)) k < moP (c (12 + 5 * k))) then 1 else 0) := by
  have hn := h.1
  have a1 := (h.2 _ hk).2
  have a2 := cnP_le c (c (12 + 5 * k)) k
  have a3 := moP_le (c (12 + 5 * k))
  unfold f_X5_mayBegin
  rw [x_letterAt h hk]
  simp only [Option.bind_some]
  rw [x_partsAhead h a1 (by omega), x_mostParts a1]
  simp (disch := omega) only [Option.bind_some, kz_le]
  by_cases e : cnP c (c (12 + 5 * k)) k < moP (c (12 + 5 * k))
  · rw [if_neg (by omega)]; simp [e]
  · rw [if_pos (by omega)]; simp [e]
theorem x_fits (h : holdT T c n) {i : Nat} (hi : i < n) : f_X5_fits (nI n) T (nI i) = some (if fitS c i then 1 else 0) := by
  have hn := h.1
  unfold f_X5_fits fitS
  simp (disch := omega) only [show (12 : Int32) = nI 12 from rfl, show (nI i = 0) = (i = 0) from kz_eq (a := i) (b := 0) (by omega) (by omega), kz_le]
  by_cases e0 : i = 0
  · subst e0
    rw [if_pos rfl, if_pos rfl, x_letterAt h hi]
    have := (h.2 0 hi).2
    simp (disch := omega) only [Option.bind_some, show (76 : Int32) = nI 76 from rfl, kz_eq]
    by_cases e : c 0 = 76 <;> simp [e]
  · rw [if_neg e0, if_neg e0]
    by_cases e1 : 12 ≤ i
    · rw [if_pos e1, if_pos e1, pk_sub e1, show (5 : Int32) = nI 5 from rfl, pk_rem (by omega) (by omega) (by omega)]
      simp (disch := omega) only [nm_, show ∀ k, k < 2 ^ 31 → (nI k = 0) = (k = 0) from fun k hk => kz_eq (a := k) (b := 0) hk (by omega)]
      by_cases e2 : (i - 12) % 5 = 0
      · rw [if_pos e2, if_pos e2]
        have hk : i = 12 + 5 * ((i - 12) / 5) := by omega
        have := x_mayBegin h (k := (i - 12) / 5) (by omega)
        rw [← hk] at this
        rw [this]
        simp only [Option.bind_some, kz_b1, if_true]
      · rw [if_neg e2, if_neg e2, x_fitsInPart h hi (by omega) (by omega) (by omega)]
        simp only [Option.bind_some, kz_b1, if_true]
    · rw [if_neg e1, if_neg e1]
      have := x_isWithin h hi (lo := 0) (hi := 9) (by omega) (by omega)
      rw [show (9 : Int32) = nI 9 from rfl, show f_X5_isWithin (nI n) T (nI i) 0 (nI 9) = _ from this]
      simp only [Option.bind_some, kz_b1, if_true]
theorem x_fault (h : holdT T c n) : f_X5_firstFault (nI n) T = some (fFF c n) := by
  have hn := h.1
  unfold f_X5_firstFault
  -- the place of the first that does not fit
  have hx : ∀ n2, lp_X5_firstFault_2 (nI n) T (n2 + 1) (nI n) = some (if 12 ≤ n ∧ (n - 12) % 5 = 0 then -9 else nI n) := by
    intro n2
    rw [le_X5_firstFault_2]
    unfold bk_X5_firstFault_2 bk_X5_firstFault_26 bk_X5_firstFault_51 bk_X5_firstFault_52
    rw [if_pos (nI_le (Nat.le_refl _) (by omega))]
    by_cases e1 : n < 12
    · rw [if_pos (show nI n < (12 : Int32) from nI_lt (b := 12) e1 (by omega)), if_neg (show ¬ (12 ≤ n ∧ (n - 12) % 5 = 0) by omega)]
      rfl
    · rw [if_neg (show ¬ nI n < (12 : Int32) from nI_nlt (b := 12) (by omega) (by omega)), show (12 : Int32) = nI 12 from rfl, pk_sub (by omega), show (5 : Int32) = nI 5 from rfl, pk_rem (by omega) (by omega) (by omega)]
      by_cases e2 : (n - 12) % 5 = 0
      · rw [if_pos (show 12 ≤ n ∧ (n - 12) % 5 = 0 from ⟨by omega, e2⟩), e2]
        rfl
      · rw [if_neg (show ¬ nI ((n - 12) % 5) = 0 from nI_ne0 (by omega) (by omega)), if_neg (show ¬ (12 ≤ n ∧ (n - 12) % 5 = 0) by omega)]
        rfl
  have step : ∀ n2 j, j < n → lp_X5_firstFault_2 (nI n) T (n2 + 1) (nI j) = if fitS c j then lp_X5_firstFault_2 (nI n) T n2 (nI (j + 1)) else some (nI j) := by
    intro n2 j hj
    rw [le_X5_firstFault_2]
    unfold bk_X5_firstFault_2
    rw [if_neg (nI_ge hj (by omega)), x_fits h hj]
    simp only [Option.bind_some, nm_, kz_b01]
    rw [nI_1]
    cases fitS c j <;> simp
  have key : ∀ n2 j, j ≤ fa_first (fun i => !fitS c i) n → n - j < n2 → lp_X5_firstFault_2 (nI n) T n2 (nI j) = some (fFF c n) := by
    intro n2
    induction n2 with
    | zero => intro j _ h2; omega
    | succ n2 ih =>
      intro j h1 h2
      have hle := fa_first_le (fun i => !fitS c i) n
      rcases Nat.lt_or_ge j (fa_first (fun i => !fitS c i) n) with h3 | h3
      · have h4 := fa_first_no (fun i => !fitS c i) n j h3
        have h5 : fitS c j = true := by simpa using h4
        rw [step n2 j (by omega), h5]
        exact ih (j + 1) h3 (by omega)
      · have e : j = fa_first (fun i => !fitS c i) n := by omega
        unfold fFF
        rcases Nat.lt_or_ge j n with h6 | h6
        · have h7 := fa_first_yes (fun i => !fitS c i) n (by omega)
          rw [← e] at h7
          have h5 : fitS c j = false := by simpa using h7
          rw [step n2 j h6, h5, ← e, if_pos h6]
          rfl
        · have e2 : j = n := by omega
          rw [← e, if_neg (by omega), e2]
          exact hx n2
  exact key 1000 0 (Nat.zero_le _) (by omega)
end TX
