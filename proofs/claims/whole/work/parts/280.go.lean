/-! THE LAW, BY ITS STEPS -/
theorem law_go (L : Nat) (xs : Nat → Int32) (hL : L ≤ 2048) : ∀ (n2 i : Nat) (X_filledSlots : Int32) (X_theSeed : Int64) (X_doings : Nat → Int32) (T_length : Int32) (T_letters : Nat → Int32) (F_glow : Int32) (F_spotCount : Int32) (F_pointCount : Int32) (F_wallCount : Int32) (F_table : Nat → Int32) (F_spots : Nat → Int32) (F_points : Nat → Int32) (F_walls : Nat → Int32) (F_across : Nat → Int32) (F_bareLight : Nat → Int32) (N_hung : Int32) (N_dead : Int32) (N_standing : Int32) (N_wants : Nat → Int32) (R_hung : Int32) (R_dead : Int32) (R_standing : Int32) (R_wants : Nat → Int32) (P_hung : Int32) (P_dead : Int32) (P_standing : Int32) (P_wants : Nat → Int32) (Q_hung : Int32) (Q_dead : Int32) (Q_standing : Int32) (Q_wants : Nat → Int32) (A_size : Int32) (A_kinds : Nat → Int32) (A_numbers : Nat → Int32) (A_befores : Nat → Int32) (S_size : Int32) (S_points : Nat → Int32) (S_values : Nat → Int32) (S_were : Nat → Int32) (Z_served : Nat → Int32) (Z_sums : Nat → Int32) (M_thrown : Int32) (M_textSize : Int32) (M_place : Int32) (M_doings : Int32) (M_seen : Int32) (M_seed : Int64) (M_bestSet : Int32) (M_text : Nat → Int32) (M_plan : Nat → Int32) (M_read : Nat → Int32) (M_readPage : Nat → Int32) (M_page : Nat → Int32) (M_trial : Nat → Int32) (M_book : Nat → Int32) (M_kept : Nat → Int32) (M_isKept : Nat → Int32) (M_seenPoint : Nat → Int32) (M_seenSum : Nat → Int32) (M_seenWas : Nat → Int32), lwI X_filledSlots X_theSeed X_doings T_length T_letters F_glow F_spotCount F_pointCount F_wallCount F_table F_spots F_points F_walls F_across F_bareLight N_hung N_dead N_standing N_wants R_hung R_dead R_standing R_wants P_hung P_dead P_standing P_wants Q_hung Q_dead Q_standing Q_wants A_size A_kinds A_numbers A_befores S_size S_points S_values S_were Z_served Z_sums M_thrown M_textSize M_place M_doings M_seen M_seed M_bestSet M_text M_plan M_read M_readPage M_page M_trial M_book M_kept M_isKept M_seenPoint M_seenSum M_seenWas → 4 * i ≤ L → L < 4 * i + 4 * n2 → lp_L_law_18 L xs n2 X_filledSlots X_theSeed X_doings T_length T_letters F_glow F_spotCount F_pointCount F_wallCount F_table F_spots F_points F_walls F_across F_bareLight N_hung N_dead N_standing N_wants R_hung R_dead R_standing R_wants P_hung P_dead P_standing P_wants Q_hung Q_dead Q_standing Q_wants A_size A_kinds A_numbers A_befores S_size S_points S_values S_were Z_served Z_sums M_thrown M_textSize M_place M_doings M_seen M_seed M_bestSet M_text M_plan M_read M_readPage M_page M_trial M_book M_kept M_isKept M_seenPoint M_seenSum M_seenWas (nI (4 * i)) = some 1 := by
  intro n2
  induction n2 with
  | zero =>
    intro i X_filledSlots X_theSeed X_doings T_length T_letters F_glow F_spotCount F_pointCount F_wallCount F_table F_spots F_points F_walls F_across F_bareLight N_hung N_dead N_standing N_wants R_hung R_dead R_standing R_wants P_hung P_dead P_standing P_wants Q_hung Q_dead Q_standing Q_wants A_size A_kinds A_numbers A_befores S_size S_points S_values S_were Z_served Z_sums M_thrown M_textSize M_place M_doings M_seen M_seed M_bestSet M_text M_plan M_read M_readPage M_page M_trial M_book M_kept M_isKept M_seenPoint M_seenSum M_seenWas hI h1 h2
    exact absurd h2 (by omega)
  | succ n2 ih =>
    intro i X_filledSlots X_theSeed X_doings T_length T_letters F_glow F_spotCount F_pointCount F_wallCount F_table F_spots F_points F_walls F_across F_bareLight N_hung N_dead N_standing N_wants R_hung R_dead R_standing R_wants P_hung P_dead P_standing P_wants Q_hung Q_dead Q_standing Q_wants A_size A_kinds A_numbers A_befores S_size S_points S_values S_were Z_served Z_sums M_thrown M_textSize M_place M_doings M_seen M_seed M_bestSet M_text M_plan M_read M_readPage M_page M_trial M_book M_kept M_isKept M_seenPoint M_seenSum M_seenWas hI h1 h2
    rw [le_L_law_18]
    unfold bk_L_law_18
    have ec : ((Int32.ofNat L) - (4 : Int32) < nI (4 * i)) = (L < 4 + 4 * i) := kz_sub_lt (a := L) (b := 4) (by omega) (by omega) (by omega)
    by_cases cl : L < 4 + 4 * i
    · rw [if_pos (by rw [ec]; exact cl)]
    have hk : ∀ y0 y1 y2 y3 y4 y5 y6 y7 y8 y9 y10 y11 y12 y13 y14 y15 y16 y17 y18 y19 y20 y21 y22 y23 y24 y25 y26 y27 y28 y29 y30 y31 y32 y33 y34 y35 y36 y37 y38 y39 y40 y41 y42 y43 y44 y45 y46 y47 y48 y49 y50 y51 y52 y53 y54 y55 y56 y57 y58 y59, lwI y0 y1 y2 y3 y4 y5 y6 y7 y8 y9 y10 y11 y12 y13 y14 y15 y16 y17 y18 y19 y20 y21 y22 y23 y24 y25 y26 y27 y28 y29 y30 y31 y32 y33 y34 y35 y36 y37 y38 y39 y40 y41 y42 y43 y44 y45 y46 y47 y48 y49 y50 y51 y52 y53 y54 y55 y56 y57 y58 y59 → lp_L_law_18 L xs n2 y0 y1 y2 y3 y4 y5 y6 y7 y8 y9 y10 y11 y12 y13 y14 y15 y16 y17 y18 y19 y20 y21 y22 y23 y24 y25 y26 y27 y28 y29 y30 y31 y32 y33 y34 y35 y36 y37 y38 y39 y40 y41 y42 y43 y44 y45 y46 y47 y48 y49 y50 y51 y52 y53 y54 y55 y56 y57 y58 y59 (nI (4 * i + 4)) = some 1 := fun y0 y1 y2 y3 y4 y5 y6 y7 y8 y9 y10 y11 y12 y13 y14 y15 y16 y17 y18 y19 y20 y21 y22 y23 y24 y25 y26 y27 y28 y29 y30 y31 y32 y33 y34 y35 y36 y37 y38 y39 y40 y41 y42 y43 y44 y45 y46 y47 y48 y49 y50 y51 y52 y53 y54 y55 y56 y57 y58 y59 hJ => ih (i + 1) y0 y1 y2 y3 y4 y5 y6 y7 y8 y9 y10 y11 y12 y13 y14 y15 y16 y17 y18 y19 y20 y21 y22 y23 y24 y25 y26 y27 y28 y29 y30 y31 y32 y33 y34 y35 y36 y37 y38 y39 y40 y41 y42 y43 y44 y45 y46 y47 y48 y49 y50 y51 y52 y53 y54 y55 y56 y57 y58 y59 hJ (by omega) (by omega)
    rw [if_neg (by rw [ec]; exact cl), kz_ix (show 4 * i < L by omega) (by omega)]
    by_cases c0 : (xs (Int32.toNatClampNeg (nI (4 * i)))) &&& (31 : Int32) = (0 : Int32)
    · rw [if_pos c0]; exact v_152 (by omega) hL hI hk
    rw [if_neg c0]
    by_cases c1 : (xs (Int32.toNatClampNeg (nI (4 * i)))) &&& (31 : Int32) = (1 : Int32)
    · rw [if_pos c1]; exact v_175 (by omega) hL hI hk
    rw [if_neg c1]
    by_cases c2 : (xs (Int32.toNatClampNeg (nI (4 * i)))) &&& (31 : Int32) = (2 : Int32)
    · rw [if_pos c2]; exact v_188 (by omega) hL hI hk
    rw [if_neg c2]
    by_cases c3 : (xs (Int32.toNatClampNeg (nI (4 * i)))) &&& (31 : Int32) = (3 : Int32)
    · rw [if_pos c3]; exact v_201 (by omega) hL hI hk
    rw [if_neg c3]
    by_cases c4 : (xs (Int32.toNatClampNeg (nI (4 * i)))) &&& (31 : Int32) = (4 : Int32)
    · rw [if_pos c4]; exact v_214 (by omega) hL hI hk
    rw [if_neg c4]
    by_cases c5 : (xs (Int32.toNatClampNeg (nI (4 * i)))) &&& (31 : Int32) = (5 : Int32)
    · rw [if_pos c5]; exact v_247 (by omega) hL hI hk
    rw [if_neg c5]
    by_cases c6 : (xs (Int32.toNatClampNeg (nI (4 * i)))) &&& (31 : Int32) = (6 : Int32)
    · rw [if_pos c6]; exact v_280 (by omega) hL hI hk
    rw [if_neg c6]
    by_cases c7 : (xs (Int32.toNatClampNeg (nI (4 * i)))) &&& (31 : Int32) = (7 : Int32)
    · rw [if_pos c7]; exact v_313 (by omega) hL hI hk
    rw [if_neg c7]
    by_cases c8 : (xs (Int32.toNatClampNeg (nI (4 * i)))) &&& (31 : Int32) = (8 : Int32)
    · rw [if_pos c8]; exact v_346 (by omega) hL hI hk
    rw [if_neg c8]
    by_cases c9 : (xs (Int32.toNatClampNeg (nI (4 * i)))) &&& (31 : Int32) = (9 : Int32)
    · rw [if_pos c9]; exact v_369 (by omega) hL hI hk
    rw [if_neg c9]
    by_cases c10 : (xs (Int32.toNatClampNeg (nI (4 * i)))) &&& (31 : Int32) = (10 : Int32)
    · rw [if_pos c10]; exact v_392 (by omega) hL hI hk
    rw [if_neg c10]
    by_cases c11 : (xs (Int32.toNatClampNeg (nI (4 * i)))) &&& (31 : Int32) = (11 : Int32)
    · rw [if_pos c11]; exact v_415 (by omega) hL hI hk
    rw [if_neg c11]
    by_cases c12 : (xs (Int32.toNatClampNeg (nI (4 * i)))) &&& (31 : Int32) = (12 : Int32)
    · rw [if_pos c12]; exact v_448 (by omega) hL hI hk
    rw [if_neg c12]
    by_cases c13 : (xs (Int32.toNatClampNeg (nI (4 * i)))) &&& (31 : Int32) = (13 : Int32)
    · rw [if_pos c13]; exact v_461 (by omega) hL hI hk
    rw [if_neg c13]
    by_cases c14 : (xs (Int32.toNatClampNeg (nI (4 * i)))) &&& (31 : Int32) = (14 : Int32)
    · rw [if_pos c14]; exact v_494 (by omega) hL hI hk
    rw [if_neg c14]
    by_cases c15 : (xs (Int32.toNatClampNeg (nI (4 * i)))) &&& (31 : Int32) = (15 : Int32)
    · rw [if_pos c15]; exact v_517 (by omega) hL hI hk
    rw [if_neg c15]
    by_cases c16 : (xs (Int32.toNatClampNeg (nI (4 * i)))) &&& (31 : Int32) = (16 : Int32)
    · rw [if_pos c16]; exact v_580 (by omega) hL hI hk
    rw [if_neg c16]
    by_cases c17 : (xs (Int32.toNatClampNeg (nI (4 * i)))) &&& (31 : Int32) = (17 : Int32)
    · rw [if_pos c17]; exact v_623 (by omega) hL hI hk
    rw [if_neg c17]
    by_cases c18 : (xs (Int32.toNatClampNeg (nI (4 * i)))) &&& (31 : Int32) = (18 : Int32)
    · rw [if_pos c18]; exact v_636 (by omega) hL hI hk
    rw [if_neg c18]
    by_cases c19 : (xs (Int32.toNatClampNeg (nI (4 * i)))) &&& (31 : Int32) = (19 : Int32)
    · rw [if_pos c19]; exact v_649 (by omega) hL hI hk
    rw [if_neg c19]
    by_cases c20 : (xs (Int32.toNatClampNeg (nI (4 * i)))) &&& (31 : Int32) = (20 : Int32)
    · rw [if_pos c20]; exact v_698 (by omega) hL hI hk
    rw [if_neg c20]
    by_cases c21 : (xs (Int32.toNatClampNeg (nI (4 * i)))) &&& (31 : Int32) = (21 : Int32)
    · rw [if_pos c21]; exact v_747 (by omega) hL hI hk
    rw [if_neg c21]
    by_cases c22 : (xs (Int32.toNatClampNeg (nI (4 * i)))) &&& (31 : Int32) = (22 : Int32)
    · rw [if_pos c22]; exact v_801 (by omega) hL hI hk
    rw [if_neg c22]
    by_cases c23 : (xs (Int32.toNatClampNeg (nI (4 * i)))) &&& (31 : Int32) = (23 : Int32)
    · rw [if_pos c23]; exact v_824 (by omega) hL hI hk
    rw [if_neg c23]
    by_cases c24 : (xs (Int32.toNatClampNeg (nI (4 * i)))) &&& (31 : Int32) = (24 : Int32)
    · rw [if_pos c24]; exact v_847 (by omega) hL hI hk
    rw [if_neg c24]
    by_cases c25 : (xs (Int32.toNatClampNeg (nI (4 * i)))) &&& (31 : Int32) = (25 : Int32)
    · rw [if_pos c25]; exact v_870 (by omega) hL hI hk
    rw [if_neg c25]
    rw [nmE, show nI (4 * i) + (4 : Int32) = nI (4 * i + 4) from nI_add (4 * i) 4]
    exact hk _ _ _ _ _ _ _ _ _ _ _ _ _ _ _ _ _ _ _ _ _ _ _ _ _ _ _ _ _ _ _ _ _ _ _ _ _ _ _ _ _ _ _ _ _ _ _ _ _ _ _ _ _ _ _ _ _ _ _ _ hI
