/-! SERVED POINTS, PRICES, COUNTS OF BITS -/
def pcN (a : Nat) : Nat := a % 2 + a / 2 % 2 + a / 4 % 2 + a / 8 % 2 + a / 16 % 2 + a / 32 % 2 + a / 64 % 2 + a / 128 % 2
theorem pcN_le (a : Nat) : pcN a ≤ 8 := by unfold pcN; omega
theorem x_bitCount : ∀ a, a < 256 → f_J6_bitCount (nI a) = some (nI (pcN a)) := by decide +kernel
theorem m_ones : ∀ a, a < 256 → f_X7_ones (nI a) = some (nI (pcN a)) := by decide +kernel
def lvN (h d : Nat) : Nat := h &&& (255 ^^^ d)
theorem lvN_le (h d : Nat) : lvN h d ≤ h := Nat.and_le_left
theorem x_live {h d : Nat} (hh : h < 256) : f_X2_live (nI h) (nI d) = some (nI (lvN h d)) := by
  unfold f_X2_live lvN
  rw [kb_andn hh]
theorem m_live {pg : Nat → Int32} {h d : Nat} (hh : h < 256) (h0 : pg 0 = nI h) (h1 : pg 1 = nI d) : f_X7_live pg = some (nI (lvN h d)) := by
  unfold f_X7_live lvN
  rw [show Int32.toNatClampNeg 0 = 0 from rfl, show Int32.toNatClampNeg 1 = 1 from rfl, h0, h1, kb_andn hh]
/-- points served, by lamps lv and walls st, as bits -/
noncomputable def svS (P wt : Nat → Nat) (lv st : Nat) : Nat := mkb (fun p => decide (wt p ≤ smS P lv st p)) (P 12)
noncomputable def ssS (P : Nat → Nat) (lv st : Nat) : Nat := fb_sm (fun p => smS P lv st p) (P 12)
def prS (P : Nat → Nat) (set : Nat) : Nat := fb_sm (fun s => if set.testBit s then P (17 + 4 * s) else 0) (P 11)
section SV
variable {P wt : Nat → Nat} {plan tb sp po wa ac bL W pg : Nat → Int32}
theorem svS_lt (h : plI P plan) (lv st : Nat) : svS P wt lv st < 64 := by
  have h6 := h.2.2.1
  have := mkb_lt (fun p => decide (wt p ≤ smS P lv st p)) (P 12)
  have : 2 ^ P 12 ≤ 2 ^ 6 := Nat.pow_le_pow_right (by decide) h6
  unfold svS
  omega
theorem ssS_le (h : plI P plan) (lv st : Nat) : ssS P lv st ≤ 3942 := by
  have h6 := h.2.2.1
  unfold ssS
  have : fb_sm (fun p => smS P lv st p) (P 12) ≤ P 12 * 657 := fb_sm_bound (fun k hk => smS_le h lv st k)
  have : P 12 * 657 ≤ 6 * 657 := Nat.mul_le_mul_right 657 h6
  omega
theorem prS_le (h : plI P plan) (set : Nat) : prS P set ≤ 72 := by
  have h8 := h.2.1
  unfold prS
  have : fb_sm (fun s => if set.testBit s then P (17 + 4 * s) else 0) (P 11) ≤ P 11 * 9 := fb_sm_bound (fun k hk => by
    split
    · exact (h.1 _ (by omega)).2
    · omega)
  have : P 11 * 9 ≤ 8 * 9 := Nat.mul_le_mul_right 9 h8
  omega
theorem x_wantOf (hW : ∀ p, p < 6 → W p = nI (wt p)) {p : Nat} (hp : p < 6) : f_X2_wantOf W (nI p) = some (nI (wt p)) := by
  unfold f_X2_wantOf
  rw [if_neg (nI_pos (by omega)), if_pos (show nI p < (6 : Int32) from nI_lt (b := 6) hp (by omega)), kz_ix hp (by omega), kz_cl (by omega), hW p hp]
theorem x_served (h : plI P plan) (hr : raI P ac bL) (hW : ∀ p, p < 6 → W p = nI (wt p)) (hw : ∀ p, p < 6 → wt p ≤ 99) {lv st : Nat} (hlv : lv < 256) (hst : st < 256) : f_X2_servedPoints W (nI (P 10)) (nI (P 11)) (nI (P 12)) ac bL (nI lv) (nI st) = some (nI (svS P wt lv st)) := by
  obtain ⟨h0, h8, h6, h5⟩ := id h
  unfold f_X2_servedPoints svS
  have key := lp_up1 (fun n2 y i => lp_X2_servedPoints_5 W (nI (P 10)) (nI (P 11)) (nI (P 12)) ac bL (nI lv) (nI st) n2 y i) (fun p => nI (mkb (fun p => decide (wt p ≤ smS P lv st p)) p)) (P 12) (some (nI (mkb (fun p => decide (wt p ≤ smS P lv st p)) (P 12)))) (fun n2 => ?_) (fun n2 p hp => ?_) 1000 0 (by omega) (by omega)
  · exact key
  · rw [le_X2_servedPoints_5]
    unfold bk_X2_servedPoints_5
    rw [if_pos (nI_le (Nat.le_refl _) (by omega))]
  · rw [le_X2_servedPoints_5]
    unfold bk_X2_servedPoints_5
    have b1 := smS_le h lv st p
    have b2 := hw p (by omega)
    rw [if_neg (nI_ge hp (by omega)), x_sumAt h hr hlv hst hp, x_wantOf hW (by omega)]
    simp (disch := omega) only [Option.bind_some, nm_, nI_1, kz_lt]
    rw [mkb_put (by omega)]
    have e : mkb (fun p => decide (wt p ≤ smS P lv st p)) (p + 1) = mkb (fun p => decide (wt p ≤ smS P lv st p)) p + (if decide (wt p ≤ smS P lv st p) then 2 ^ p else 0) := rfl
    rw [e]
    by_cases c : smS P lv st p < wt p
    · rw [if_pos c, if_neg (by simp; omega)]
      rfl
    · rw [if_neg c, if_pos (by simp; omega)]
theorem m_served_page (h : plI P plan) (hW : ∀ p, p < 6 → pg (3 + p) = nI (wt p)) (hw : ∀ p, p < 6 → wt p ≤ 99) {lv st : Nat} (hlv : lv < 2 ^ 31) (hst : st < 2 ^ 31) : f_X7_servedBy_page plan pg (nI lv) (nI st) = some (nI (svS P wt lv st)) := by
  obtain ⟨h0, h8, h6, h5⟩ := id h
  unfold f_X7_servedBy_page svS
  have key := lp_up1 (fun n2 y i => lp_X7_servedBy_page_6 plan pg (nI lv) (nI st) n2 y i) (fun p => nI (mkb (fun p => decide (wt p ≤ smS P lv st p)) p)) (P 12) (some (nI (mkb (fun p => decide (wt p ≤ smS P lv st p)) (P 12)))) (fun n2 => ?_) (fun n2 p hp => ?_) 1000 0 (by omega) (by omega)
  · exact key
  · rw [le_X7_servedBy_page_6]
    unfold bk_X7_servedBy_page_6 f_X7_points
    rw [show Int32.toNatClampNeg 12 = 12 from rfl, (h0 12 (by omega)).1]
    simp only [Option.bind_some]
    rw [if_pos (nI_le (Nat.le_refl _) (by omega))]
  · rw [le_X7_servedBy_page_6]
    unfold bk_X7_servedBy_page_6 f_X7_points
    have b1 := smS_le h lv st p
    have b2 := hw p (by omega)
    rw [show Int32.toNatClampNeg 12 = 12 from rfl, (h0 12 (by omega)).1]
    simp only [Option.bind_some]
    rw [if_neg (nI_ge hp (by omega)), m_sumBy h hlv hst hp, show (3 : Int32) + nI p = nI (3 + p) from nI_add 3 p]
    simp only [Option.bind_some]
    rw [kz_ix (by omega) (by omega), kz_cl (by omega), hW p (by omega)]
    simp (disch := omega) only [nm_, nI_1, kz_lt]
    rw [mkb_put (by omega)]
    have e : mkb (fun p => decide (wt p ≤ smS P lv st p)) (p + 1) = mkb (fun p => decide (wt p ≤ smS P lv st p)) p + (if decide (wt p ≤ smS P lv st p) then 2 ^ p else 0) := rfl
    rw [e]
    by_cases c : smS P lv st p < wt p
    · rw [if_pos c, if_neg (by simp; omega), show (0 : Int32) = nI 0 from rfl, fa_or, Nat.or_zero]
      rfl
    · rw [if_neg c, if_pos (by simp; omega)]
theorem served_same (pl pg : Nat → Int32) (a b : Int32) : f_X7_servedBy_trial pl pg a b = f_X7_servedBy_page pl pg a b := by
  have e : @bk_X7_servedBy_trial_6 = @bk_X7_servedBy_page_6 := rfl
  unfold f_X7_servedBy_trial f_X7_servedBy_page lp_X7_servedBy_trial_6 lp_X7_servedBy_page_6
  rw [e]
theorem x_sumOfAll (h : plI P plan) (hr : raI P ac bL) {lv st : Nat} (hlv : lv < 256) (hst : st < 256) : f_X1_sumOfAll (nI (P 10)) (nI (P 11)) (nI (P 12)) ac bL (nI lv) (nI st) = some (nI (ssS P lv st)) := by
  obtain ⟨h0, h8, h6, h5⟩ := id h
  unfold f_X1_sumOfAll ssS
  have key := lp_up1 (fun n2 y i => lp_X1_sumOfAll_5 (nI (P 10)) (nI (P 11)) (nI (P 12)) ac bL (nI lv) (nI st) n2 y i) (fun p => nI (fb_sm (fun p => smS P lv st p) p)) (P 12) (some (nI (fb_sm (fun p => smS P lv st p) (P 12)))) (fun n2 => ?_) (fun n2 p hp => ?_) 1000 0 (by omega) (by omega)
  · exact key
  · rw [le_X1_sumOfAll_5]
    unfold bk_X1_sumOfAll_5
    rw [if_pos (nI_le (Nat.le_refl _) (by omega))]
  · rw [le_X1_sumOfAll_5]
    unfold bk_X1_sumOfAll_5
    rw [if_neg (nI_ge hp (by omega)), x_sumAt h hr hlv hst hp]
    simp only [Option.bind_some, nm_, nI_1, nI_add, fb_sm_succ]
theorem m_sumsBy (h : plI P plan) {lv st : Nat} (hlv : lv < 2 ^ 31) (hst : st < 2 ^ 31) : f_X7_sumsBy plan (nI lv) (nI st) = some (nI (ssS P lv st)) := by
  obtain ⟨h0, h8, h6, h5⟩ := id h
  unfold f_X7_sumsBy ssS
  have key := lp_up1 (fun n2 y i => lp_X7_sumsBy_5 plan (nI lv) (nI st) n2 y i) (fun p => nI (fb_sm (fun p => smS P lv st p) p)) (P 12) (some (nI (fb_sm (fun p => smS P lv st p) (P 12)))) (fun n2 => ?_) (fun n2 p hp => ?_) 1000 0 (by omega) (by omega)
  · exact key
  · rw [le_X7_sumsBy_5]
    unfold bk_X7_sumsBy_5 f_X7_points
    rw [show Int32.toNatClampNeg 12 = 12 from rfl, (h0 12 (by omega)).1]
    simp only [Option.bind_some]
    rw [if_pos (nI_le (Nat.le_refl _) (by omega))]
  · rw [le_X7_sumsBy_5]
    unfold bk_X7_sumsBy_5 f_X7_points
    rw [show Int32.toNatClampNeg 12 = 12 from rfl, (h0 12 (by omega)).1]
    simp only [Option.bind_some]
    rw [if_neg (nI_ge hp (by omega)), m_sumBy h hlv hst hp]
    simp only [Option.bind_some, nm_, nI_1, nI_add, fb_sm_succ]
theorem x_price (h : plI P plan) (h2 : ptI P tb sp po wa) {set : Nat} (hs : set < 2 ^ 31) : f_X1_priceOf (nI (P 11)) sp (nI set) = some (nI (prS P set)) := by
  obtain ⟨h0, h8, h6, h5⟩ := id h
  unfold f_X1_priceOf prS
  have key := lp_up1 (fun n2 y i => lp_X1_priceOf_4 (nI (P 11)) sp (nI set) n2 y i) (fun s => nI (fb_sm (fun s => if set.testBit s then P (17 + 4 * s) else 0) s)) (P 11) (some (nI (fb_sm (fun s => if set.testBit s then P (17 + 4 * s) else 0) (P 11)))) (fun n2 => ?_) (fun n2 s hs2 => ?_) 1000 0 (by omega) (by omega)
  · exact key
  · rw [le_X1_priceOf_4]
    unfold bk_X1_priceOf_4
    rw [if_pos (nI_le (Nat.le_refl _) (by omega))]
  · rw [le_X1_priceOf_4]
    unfold bk_X1_priceOf_4
    have s3 := x_spotF h h2 hs2 (j := 3) (by omega)
    rw [show 14 + 4 * s + 3 = 17 + 4 * s by omega] at s3
    rw [if_neg (nI_ge hs2 (by omega)), show (3 : Int32) = nI 3 from rfl, s3]
    simp only [kb_has0 hs (show s < 32 by omega), Option.bind_some, nm_, nI_1, nI_add, fb_sm_succ]
    cases set.testBit s <;> simp
theorem m_price (h : plI P plan) {set : Nat} (hs : set < 2 ^ 31) : f_X7_priceOf plan (nI set) = some (nI (prS P set)) := by
  obtain ⟨h0, h8, h6, h5⟩ := id h
  unfold f_X7_priceOf prS
  have key := lp_up1 (fun n2 y i => lp_X7_priceOf_4 plan (nI set) n2 y i) (fun s => nI (fb_sm (fun s => if set.testBit s then P (17 + 4 * s) else 0) s)) (P 11) (some (nI (fb_sm (fun s => if set.testBit s then P (17 + 4 * s) else 0) (P 11)))) (fun n2 => ?_) (fun n2 s hs2 => ?_) 1000 0 (by omega) (by omega)
  · exact key
  · rw [le_X7_priceOf_4]
    unfold bk_X7_priceOf_4 f_X7_spots
    rw [show Int32.toNatClampNeg 11 = 11 from rfl, (h0 11 (by omega)).1]
    simp only [Option.bind_some]
    rw [if_pos (nI_le (Nat.le_refl _) (by omega))]
  · rw [le_X7_priceOf_4]
    unfold bk_X7_priceOf_4 f_X7_spots
    rw [show Int32.toNatClampNeg 11 = 11 from rfl, (h0 11 (by omega)).1]
    simp only [Option.bind_some]
    rw [if_neg (nI_ge hs2 (by omega)), m_has hs (by omega), show (4 : Int32) = nI 4 from rfl, pk_mul, show (17 : Int32) + nI (4 * s) = nI (17 + 4 * s) from nI_add 17 _]
    rw [kz_ix (by omega) (by omega), kz_cl (by omega), (h0 (17 + 4 * s) (by omega)).1]
    simp only [Option.bind_some, kz_b01, nm_, nI_1, nI_add, fb_sm_succ]
    cases set.testBit s <;> simp
end SV
