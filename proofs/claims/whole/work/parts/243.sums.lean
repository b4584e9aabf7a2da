/-! SHADE, LIGHT, SUMS on both sides -/
theorem x_hasSpot {n i : Nat} (hn : n ≤ 100) (hi : i < 2 ^ 31) : f_X1_hasSpot (nI n) (nI i) = some (if i < n then 1 else 0) := by
  unfold f_X1_hasSpot
  rw [if_neg (nI_pos hi)]
  by_cases h : i < n
  · rw [if_neg (nI_ge h (by omega)), if_pos h]
  · rw [if_pos (nI_le (by omega) hi), if_neg h]
theorem x_hasPoint {n i : Nat} (hn : n ≤ 100) (hi : i < 2 ^ 31) : f_X1_hasPoint (nI n) (nI i) = some (if i < n then 1 else 0) := by
  unfold f_X1_hasPoint
  rw [if_neg (nI_pos hi)]
  by_cases h : i < n
  · rw [if_neg (nI_ge h (by omega)), if_pos h]
  · rw [if_pos (nI_le (by omega) hi), if_neg h]
theorem x_hasWall {n i : Nat} (hn : n ≤ 100) (hi : i < 2 ^ 31) : f_X1_hasWall (nI n) (nI i) = some (if i < n then 1 else 0) := by
  unfold f_X1_hasWall
  rw [if_neg (nI_pos hi)]
  by_cases h : i < n
  · rw [if_neg (nI_ge h (by omega)), if_pos h]
  · rw [if_pos (nI_le (by omega) hi), if_neg h]
theorem m_has {a k : Nat} (ha : a < 2 ^ 31) (hk : k < 32) : f_X7_has (nI a) (nI k) = some (if a.testBit k then 1 else 0) := by
  unfold f_X7_has
  simp only [kb_has1 ha hk]
  cases a.testBit k <;> simp
/-- the wall that shades first; nw if none -/
noncomputable def shF (P : Nat → Nat) (st s p : Nat) : Nat := fa_first (fun w => st.testBit w && mtB P s p w) (P 13)
theorem msk_st {P : Nat → Nat} {st s p : Nat} : msk P s p &&& st = 0 ↔ ∀ w, w < P 13 → (st.testBit w && mtB P s p w) = false := by
  constructor
  · intro h w hw
    have : (msk P s p &&& st).testBit w = false := by rw [h]; exact Nat.zero_testBit w
    rw [Nat.testBit_and] at this
    unfold msk at this
    rw [mkb_bit] at this
    simp only [hw, decide_true, Bool.true_and] at this
    rw [Bool.and_comm]
    exact this
  · intro h
    apply Nat.eq_of_testBit_eq
    intro i
    rw [Nat.testBit_and, Nat.zero_testBit]
    unfold msk
    rw [mkb_bit]
    by_cases hi : i < P 13
    · have := h i hi
      simp only [hi, decide_true, Bool.true_and]
      rw [Bool.and_comm]
      exact this
    · simp [hi]
theorem shF_none {P : Nat → Nat} {st s p : Nat} : msk P s p &&& st = 0 ↔ shF P st s p = P 13 := by
  rw [msk_st]
  unfold shF
  have hle := fa_first_le (fun w => st.testBit w && mtB P s p w) (P 13)
  constructor
  · intro h
    rcases Nat.lt_or_ge (fa_first (fun w => st.testBit w && mtB P s p w) (P 13)) (P 13) with q | q
    · have := fa_first_yes (fun w => st.testBit w && mtB P s p w) (P 13) q
      have h2 := h _ q
      rw [h2] at this
      cases this
    · omega
  · intro h w hw
    exact fa_first_no (fun w => st.testBit w && mtB P s p w) (P 13) w (by omega)
section SU
variable {P : Nat → Nat} {plan ac bL : Nat → Int32}
theorem m_shadeBy (h : plI P plan) {st s p : Nat} (hst : st < 2 ^ 31) (hs : s < P 11) (hp : p < P 12) : f_X7_shadeBy plan (nI s) (nI p) (nI st) = some (if shF P st s p < P 13 then nI (shF P st s p) else -9) := by
  obtain ⟨h0, h8, h6, h5⟩ := id h
  have h13 := (h0 13 (by omega)).1
  unfold f_X7_shadeBy
  have hx : ∀ n2, lp_X7_shadeBy_3 plan (nI s) (nI p) (nI st) (n2 + 1) (nI (P 13)) = some (-9) := by
    intro n2
    rw [le_X7_shadeBy_3]
    unfold bk_X7_shadeBy_3 f_X7_walls
    rw [show Int32.toNatClampNeg 13 = 13 from rfl, h13]
    simp only [Option.bind_some]
    rw [if_pos (nI_le (Nat.le_refl _) (by omega))]
  have step : ∀ n2 w, w < P 13 → lp_X7_shadeBy_3 plan (nI s) (nI p) (nI st) (n2 + 1) (nI w) = if (st.testBit w && mtB P s p w) then some (nI w) else lp_X7_shadeBy_3 plan (nI s) (nI p) (nI st) n2 (nI (w + 1)) := by
    intro n2 w hw
    rw [le_X7_shadeBy_3]
    unfold bk_X7_shadeBy_3 f_X7_walls
    rw [show Int32.toNatClampNeg 13 = 13 from rfl, h13]
    simp only [Option.bind_some]
    rw [if_neg (nI_ge hw (by omega)), m_has hst (by omega), m_meets h hs hp hw]
    simp only [Option.bind_some, kz_b01, nm_, nI_1]
    cases st.testBit w <;> cases mtB P s p w <;> simp
  have hle := fa_first_le (fun w => st.testBit w && mtB P s p w) (P 13)
  have key : ∀ n2 w, w ≤ shF P st s p → P 13 - w < n2 → lp_X7_shadeBy_3 plan (nI s) (nI p) (nI st) n2 (nI w) = some (if shF P st s p < P 13 then nI (shF P st s p) else -9) := by
    intro n2
    induction n2 with
    | zero => intro w _ h2; omega
    | succ n2 ih =>
      intro w h1 h2
      unfold shF at h1 ⊢
      rcases Nat.lt_or_ge w (fa_first (fun w => st.testBit w && mtB P s p w) (P 13)) with q | q
      · have h4 := fa_first_no (fun w => st.testBit w && mtB P s p w) (P 13) w q
        rw [step n2 w (by omega), h4]
        exact ih (w + 1) (by unfold shF; omega) (by omega)
      · have e : w = fa_first (fun w => st.testBit w && mtB P s p w) (P 13) := by omega
        rcases Nat.lt_or_ge w (P 13) with q2 | q2
        · have h4 := fa_first_yes (fun w => st.testBit w && mtB P s p w) (P 13) (by omega)
          rw [← e] at h4
          rw [step n2 w q2, h4, ← e, if_pos q2]
          rfl
        · have e2 : w = P 13 := by omega
          rw [← e, e2, hx, if_neg (by omega)]
  exact key 1000 0 (Nat.zero_le _) (by omega)
theorem m_lightBy (h : plI P plan) {st s p : Nat} (hst : st < 2 ^ 31) (hs : s < P 11) (hp : p < P 12) : f_X7_lightBy plan (nI s) (nI p) (nI st) = some (nI (ltS P st s p)) := by
  obtain ⟨h0, h8, h6, h5⟩ := id h
  have hq := sqD_le h hs hp
  have hle := fa_first_le (fun w => st.testBit w && mtB P s p w) (P 13)
  unfold f_X7_lightBy nm_
  rw [m_shadeBy h hst hs hp]
  simp only [show (14 : Int32) = nI 14 from rfl, show (15 : Int32) = nI 15 from rfl, show (16 : Int32) = nI 16 from rfl, show (46 : Int32) = nI 46 from rfl, show (47 : Int32) = nI 47 from rfl, show (4 : Int32) = nI 4 from rfl, show (2 : Int32) = nI 2 from rfl, pk_mul, nI_add]
  rw [kz_ix (by omega) (by omega), kz_ix (by omega) (by omega), kz_ix (by omega) (by omega), kz_ix (by omega) (by omega), kz_cl (show 14 + 4 * s < 2 ^ 31 by omega), kz_cl (show 15 + 4 * s < 2 ^ 31 by omega), kz_cl (show 46 + 2 * p < 2 ^ 31 by omega), kz_cl (show 47 + 2 * p < 2 ^ 31 by omega), (h0 (14 + 4 * s) (by omega)).1, (h0 (15 + 4 * s) (by omega)).1, (h0 (46 + 2 * p) (by omega)).1, (h0 (47 + 2 * p) (by omega)).1, dd_I, dd_I, nI_add, show dd (P (14 + 4 * s)) (P (46 + 2 * p)) + dd (P (15 + 4 * s)) (P (47 + 2 * p)) = sqD P s p from rfl]
  simp only [Option.bind_some]
  unfold ltS blS
  by_cases e : sqD P s p < 10
  · rw [if_neg (show ¬ (9 : Int32) < nI (sqD P s p) from nI_nlt (a := 9) (by omega) (by omega)), if_pos e]
    by_cases e2 : shF P st s p = P 13
    · rw [if_neg (show ¬ shF P st s p < P 13 by omega), if_pos rfl, kz_ix (by omega) (by omega), kz_ix (by omega) (by omega), kz_cl (show 16 + 4 * s < 2 ^ 31 by omega), kz_cl (by omega), (h0 (16 + 4 * s) (by omega)).1, (h0 (sqD P s p) (by omega)).1, pk_mul, if_pos (shF_none.mpr e2)]
    · have e3 : shF P st s p < P 13 := by unfold shF at e2 ⊢; omega
      rw [if_pos e3, if_neg (by rw [kz_m9 (by omega)]; exact id), if_neg (fun z => e2 (shF_none.mp z))]
      rfl
  · rw [if_pos (show (9 : Int32) < nI (sqD P s p) from nI_lt (a := 9) (by omega) (by omega)), if_neg e, ite_self]
    rfl
theorem x_lightOf (h : plI P plan) (hr : raI P ac bL) {st s p : Nat} (hst : st < 256) (hs : s < P 11) (hp : p < P 12) : f_X1_lightOf (nI (P 11)) (nI (P 12)) ac bL (nI s) (nI p) (nI st) = some (nI (ltS P st s p)) := by
  obtain ⟨h0, h8, h6, h5⟩ := id h
  have hm := msk_lt h s p
  obtain ⟨r1, r2⟩ := hr s hs p hp
  unfold f_X1_lightOf
  rw [x_hasSpot (by omega) (by omega), x_hasPoint (by omega) (by omega), if_pos hs, if_pos hp, show (6 : Int32) = nI 6 from rfl, pk_mul, nI_add]
  simp only [Option.bind_some, nm_, if_neg (show ¬ (1 : Int32) = 0 by decide)]
  rw [kz_ix (by omega) (by omega), kz_ix (by omega) (by omega), kz_cl (by omega), r1, r2, fa_and]
  unfold ltS
  have hb : msk P s p &&& st < 2 ^ 31 := Nat.lt_of_le_of_lt Nat.and_le_left (by omega)
  by_cases e : msk P s p &&& st = 0
  · rw [e, if_pos (show nI 0 = (0 : Int32) from rfl), if_pos rfl]
  · rw [if_neg (nI_ne0 (by omega) hb), if_neg e]
    rfl
theorem x_sumAt (h : plI P plan) (hr : raI P ac bL) {lv st p : Nat} (hlv : lv < 256) (hst : st < 256) (hp : p < P 12) : f_X1_sumAt (nI (P 10)) (nI (P 11)) (nI (P 12)) ac bL (nI p) (nI lv) (nI st) = some (nI (smS P lv st p)) := by
  obtain ⟨h0, h8, h6, h5⟩ := id h
  unfold f_X1_sumAt smS
  have key := lp_up1 (fun n2 y i => lp_X1_sumAt_9 (nI (P 11)) (nI (P 12)) ac bL (nI p) (nI lv) (nI st) n2 y i) (fun s => nI (P 10 + fb_sm (fun s => if lv.testBit s then ltS P st s p else 0) s)) (P 11) (some (nI (P 10 + fb_sm (fun s => if lv.testBit s then ltS P st s p else 0) (P 11)))) (fun n2 => ?_) (fun n2 s hs => ?_) 1000 0 (by omega) (by omega)
  · exact key
  · rw [le_X1_sumAt_9]
    unfold bk_X1_sumAt_9
    rw [if_pos (nI_le (Nat.le_refl _) (by omega))]
  · rw [le_X1_sumAt_9]
    unfold bk_X1_sumAt_9
    rw [if_neg (nI_ge hs (by omega)), x_lightOf h hr hst hs hp]
    simp only [kb_has0 (show lv < 2 ^ 31 by omega) (show s < 32 by omega), Option.bind_some, nm_, nI_1, nI_add, fb_sm_succ]
    cases lv.testBit s <;> simp [Nat.add_assoc]
theorem m_sumBy (h : plI P plan) {lv st p : Nat} (hlv : lv < 2 ^ 31) (hst : st < 2 ^ 31) (hp : p < P 12) : f_X7_sumBy plan (nI p) (nI lv) (nI st) = some (nI (smS P lv st p)) := by
  obtain ⟨h0, h8, h6, h5⟩ := id h
  unfold f_X7_sumBy smS
  rw [show Int32.toNatClampNeg 10 = 10 from rfl, (h0 10 (by omega)).1]
  simp only [nm_]
  have key := lp_up1 (fun n2 y i => lp_X7_sumBy_12 plan (nI p) (nI lv) (nI st) n2 y i) (fun s => nI (P 10 + fb_sm (fun s => if lv.testBit s then ltS P st s p else 0) s)) (P 11) (some (nI (P 10 + fb_sm (fun s => if lv.testBit s then ltS P st s p else 0) (P 11)))) (fun n2 => ?_) (fun n2 s hs => ?_) 1000 0 (by omega) (by omega)
  · exact key
  · rw [le_X7_sumBy_12]
    unfold bk_X7_sumBy_12 f_X7_spots
    rw [show Int32.toNatClampNeg 11 = 11 from rfl, (h0 11 (by omega)).1]
    simp only [Option.bind_some]
    rw [if_pos (nI_le (Nat.le_refl _) (by omega))]
  · rw [le_X7_sumBy_12]
    unfold bk_X7_sumBy_12 f_X7_spots
    rw [show Int32.toNatClampNeg 11 = 11 from rfl, (h0 11 (by omega)).1]
    simp only [Option.bind_some]
    rw [if_neg (nI_ge hs (by omega)), m_has hlv (by omega), m_lightBy h hst hs hp]
    simp only [Option.bind_some, kz_b01, nm_, nI_1, nI_add, fb_sm_succ]
    cases lv.testBit s <;> simp [Nat.add_assoc]
end SU
