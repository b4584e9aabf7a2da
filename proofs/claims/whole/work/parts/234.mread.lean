/-! THE REFERENCE READS A PLAN -/
theorem cnP_s (c : Nat → Nat) (x k : Nat) : cnP c x (k + 1) = cnP c x k + (if c (12 + 5 * k) = x then 1 else 0) := by
  unfold cnP
  rw [fb_ct_succ]
  by_cases h : c (12 + 5 * k) = x <;> simp [h]
theorem cnP_lt {c : Nat → Nat} {x k k' : Nat} (h : k' < k) (hx : c (12 + 5 * k') = x) : cnP c x k' < cnP c x k := by
  have h1 := cnP_s c x k'
  rw [if_pos hx] at h1
  have h2 : cnP c x (k' + 1) ≤ cnP c x k := fb_ct_mono _ h
  omega
/-- what has been read behind k parts -/
def rdI (c : Nat → Nat) (k : Nat) (rd rp : Nat → Int32) : Prop :=
  (∀ i, i < 78 → ∃ v, v ≤ 9 ∧ rd i = nI v) ∧
  (∀ i, i < 11 → rd i = nI (c (1 + i) - 48)) ∧
  (rd 11 = nI (cnP c 115 k) ∧ rd 12 = nI (cnP c 102 k) ∧ rd 13 = nI (cnP c 119 k)) ∧
  (∀ k', k' < k → c (12 + 5 * k') = 115 → ∀ j, j < 4 → rd (14 + 4 * cnP c 115 k' + j) = nI (c (13 + 5 * k' + j) - 48)) ∧
  (∀ k', k' < k → c (12 + 5 * k') = 102 → (∀ j, j < 2 → rd (46 + 2 * cnP c 102 k' + j) = nI (c (13 + 5 * k' + j) - 48)) ∧ rp (3 + cnP c 102 k') = nI (10 * (c (15 + 5 * k') - 48) + (c (16 + 5 * k') - 48))) ∧
  (∀ k', k' < k → c (12 + 5 * k') = 119 → ∀ j, j < 4 → rd (58 + 4 * cnP c 119 k' + j) = nI (c (13 + 5 * k' + j) - 48)) ∧
  (rp 0 = 0 ∧ rp 1 = 0 ∧ rp 2 = 0 ∧ ∀ i, cnP c 102 k ≤ i → i < 6 → rp (3 + i) = 0) ∧
  (cnP c 115 k ≤ 8 ∧ cnP c 102 k ≤ 6 ∧ cnP c 119 k ≤ 5) ∧
  (∀ i, i < 9 → ∃ v, v ≤ 99 ∧ rp i = nI v)
theorem rd_s {c : Nat → Nat} {k : Nat} {rd rp rd' : Nat → Int32} (hI : rdI c k rd rp) (hx : c (12 + 5 * k) = 115) (hc : cnP c 115 k < 8) (hd : ∀ j, j < 4 → c (13 + 5 * k + j) ≤ 57) (h11 : rd' 11 = nI (cnP c 115 k + 1)) (hin : ∀ j, j < 4 → rd' (14 + 4 * cnP c 115 k + j) = nI (c (13 + 5 * k + j) - 48)) (hout : ∀ i, i ≠ 11 → (i < 14 + 4 * cnP c 115 k ∨ 18 + 4 * cnP c 115 k ≤ i) → rd' i = rd i) : rdI c (k + 1) rd' rp := by
  obtain ⟨i1, i2, ⟨i3a, i3b, i3c⟩, i4, i5, i6, i7, ⟨i8a, i8b, i8c⟩, i9⟩ := hI
  have e1 := cnP_s c 115 k
  have e2 := cnP_s c 102 k
  have e3 := cnP_s c 119 k
  rw [if_pos hx] at e1
  rw [if_neg (by omega)] at e2 e3
  refine ⟨?_, ?_, ⟨?_, ?_, ?_⟩, ?_, ?_, ?_, ?_, ⟨by omega, by omega, by omega⟩, i9⟩
  · intro i hi
    by_cases q : i = 11
    · subst q; exact ⟨_, by omega, h11⟩
    · by_cases q2 : i < 14 + 4 * cnP c 115 k ∨ 18 + 4 * cnP c 115 k ≤ i
      · rw [hout i q q2]; exact i1 i hi
      · have := hin (i - (14 + 4 * cnP c 115 k)) (by omega)
        rw [show 14 + 4 * cnP c 115 k + (i - (14 + 4 * cnP c 115 k)) = i by omega] at this
        exact ⟨_, by have := hd (i - (14 + 4 * cnP c 115 k)) (by omega); omega, this⟩
  · intro i hi
    rw [hout i (by omega) (by omega)]; exact i2 i hi
  · rw [h11, e1]
  · rw [hout 12 (by omega) (by omega), i3b, e2, Nat.add_zero]
  · rw [hout 13 (by omega) (by omega), i3c, e3, Nat.add_zero]
  · intro k' hk hx' j hj
    rcases Nat.lt_or_ge k' k with q | q
    · have := cnP_lt q hx'
      rw [hout _ (by omega) (by omega)]; exact i4 k' q hx' j hj
    · have : k' = k := by omega
      subst this; exact hin j hj
  · intro k' hk hx'
    rcases Nat.lt_or_ge k' k with q | q
    · have := cnP_lt q hx'
      refine ⟨fun j hj => ?_, (i5 k' q hx').2⟩
      rw [hout _ (by omega) (by omega)]; exact (i5 k' q hx').1 j hj
    · have : k' = k := by omega
      subst this; omega
  · intro k' hk hx' j hj
    rcases Nat.lt_or_ge k' k with q | q
    · have := cnP_lt q hx'
      rw [hout _ (by omega) (by omega)]; exact i6 k' q hx' j hj
    · have : k' = k := by omega
      subst this; omega
  · rw [e2, Nat.add_zero]; exact i7
theorem rd_w {c : Nat → Nat} {k : Nat} {rd rp rd' : Nat → Int32} (hI : rdI c k rd rp) (hx : c (12 + 5 * k) = 119) (hc : cnP c 119 k < 5) (hd : ∀ j, j < 4 → c (13 + 5 * k + j) ≤ 57) (h13 : rd' 13 = nI (cnP c 119 k + 1)) (hin : ∀ j, j < 4 → rd' (58 + 4 * cnP c 119 k + j) = nI (c (13 + 5 * k + j) - 48)) (hout : ∀ i, i ≠ 13 → (i < 58 + 4 * cnP c 119 k ∨ 62 + 4 * cnP c 119 k ≤ i) → rd' i = rd i) : rdI c (k + 1) rd' rp := by
  obtain ⟨i1, i2, ⟨i3a, i3b, i3c⟩, i4, i5, i6, i7, ⟨i8a, i8b, i8c⟩, i9⟩ := hI
  have e1 := cnP_s c 115 k
  have e2 := cnP_s c 102 k
  have e3 := cnP_s c 119 k
  rw [if_pos hx] at e3
  rw [if_neg (by omega)] at e1 e2
  refine ⟨?_, ?_, ⟨?_, ?_, ?_⟩, ?_, ?_, ?_, ?_, ⟨by omega, by omega, by omega⟩, i9⟩
  · intro i hi
    by_cases q : i = 13
    · subst q; exact ⟨_, by omega, h13⟩
    · by_cases q2 : i < 58 + 4 * cnP c 119 k ∨ 62 + 4 * cnP c 119 k ≤ i
      · rw [hout i q q2]; exact i1 i hi
      · have := hin (i - (58 + 4 * cnP c 119 k)) (by omega)
        rw [show 58 + 4 * cnP c 119 k + (i - (58 + 4 * cnP c 119 k)) = i by omega] at this
        exact ⟨_, by have := hd (i - (58 + 4 * cnP c 119 k)) (by omega); omega, this⟩
  · intro i hi
    rw [hout i (by omega) (by omega)]; exact i2 i hi
  · rw [hout 11 (by omega) (by omega), i3a, e1, Nat.add_zero]
  · rw [hout 12 (by omega) (by omega), i3b, e2, Nat.add_zero]
  · rw [h13, e3]
  · intro k' hk hx' j hj
    rcases Nat.lt_or_ge k' k with q | q
    · have := cnP_lt q hx'
      rw [hout _ (by omega) (by omega)]; exact i4 k' q hx' j hj
    · have : k' = k := by omega
      subst this; omega
  · intro k' hk hx'
    rcases Nat.lt_or_ge k' k with q | q
    · have := cnP_lt q hx'
      refine ⟨fun j hj => ?_, (i5 k' q hx').2⟩
      rw [hout _ (by omega) (by omega)]; exact (i5 k' q hx').1 j hj
    · have : k' = k := by omega
      subst this; omega
  · intro k' hk hx' j hj
    rcases Nat.lt_or_ge k' k with q | q
    · have := cnP_lt q hx'
      rw [hout _ (by omega) (by omega)]; exact i6 k' q hx' j hj
    · have : k' = k := by omega
      subst this; exact hin j hj
  · rw [e2, Nat.add_zero]; exact i7
theorem rd_f {c : Nat → Nat} {k : Nat} {rd rp rd' rp' : Nat → Int32} (hI : rdI c k rd rp) (hx : c (12 + 5 * k) = 102) (hc : cnP c 102 k < 6) (hd : ∀ j, j < 4 → c (13 + 5 * k + j) ≤ 57) (h12 : rd' 12 = nI (cnP c 102 k + 1)) (hin : ∀ j, j < 2 → rd' (46 + 2 * cnP c 102 k + j) = nI (c (13 + 5 * k + j) - 48)) (hout : ∀ i, i ≠ 12 → (i < 46 + 2 * cnP c 102 k ∨ 48 + 2 * cnP c 102 k ≤ i) → rd' i = rd i) (hp : rp' (3 + cnP c 102 k) = nI (10 * (c (15 + 5 * k) - 48) + (c (16 + 5 * k) - 48))) (hpo : ∀ i, i ≠ 3 + cnP c 102 k → rp' i = rp i) : rdI c (k + 1) rd' rp' := by
  obtain ⟨i1, i2, ⟨i3a, i3b, i3c⟩, i4, i5, i6, ⟨i7a, i7b, i7c, i7⟩, ⟨i8a, i8b, i8c⟩, i9⟩ := hI
  have e1 := cnP_s c 115 k
  have e2 := cnP_s c 102 k
  have e3 := cnP_s c 119 k
  rw [if_pos hx] at e2
  rw [if_neg (by omega)] at e1 e3
  refine ⟨?_, ?_, ⟨?_, ?_, ?_⟩, ?_, ?_, ?_, ⟨?_, ?_, ?_, ?_⟩, ⟨by omega, by omega, by omega⟩, ?_⟩
  · intro i hi
    by_cases q : i = 12
    · subst q; exact ⟨_, by omega, h12⟩
    · by_cases q2 : i < 46 + 2 * cnP c 102 k ∨ 48 + 2 * cnP c 102 k ≤ i
      · rw [hout i q q2]; exact i1 i hi
      · have := hin (i - (46 + 2 * cnP c 102 k)) (by omega)
        rw [show 46 + 2 * cnP c 102 k + (i - (46 + 2 * cnP c 102 k)) = i by omega] at this
        exact ⟨_, by have := hd (i - (46 + 2 * cnP c 102 k)) (by omega); omega, this⟩
  · intro i hi
    rw [hout i (by omega) (by omega)]; exact i2 i hi
  · rw [hout 11 (by omega) (by omega), i3a, e1, Nat.add_zero]
  · rw [h12, e2]
  · rw [hout 13 (by omega) (by omega), i3c, e3, Nat.add_zero]
  · intro k' hk hx' j hj
    rcases Nat.lt_or_ge k' k with q | q
    · have := cnP_lt q hx'
      rw [hout _ (by omega) (by omega)]; exact i4 k' q hx' j hj
    · have : k' = k := by omega
      subst this; omega
  · intro k' hk hx'
    rcases Nat.lt_or_ge k' k with q | q
    · have := cnP_lt q hx'
      refine ⟨fun j hj => ?_, ?_⟩
      · rw [hout _ (by omega) (by omega)]; exact (i5 k' q hx').1 j hj
      · rw [hpo _ (by omega)]; exact (i5 k' q hx').2
    · have : k' = k := by omega
      subst this; exact ⟨hin, hp⟩
  · intro k' hk hx' j hj
    rcases Nat.lt_or_ge k' k with q | q
    · have := cnP_lt q hx'
      rw [hout _ (by omega) (by omega)]; exact i6 k' q hx' j hj
    · have : k' = k := by omega
      subst this; omega
  · rw [hpo _ (by omega)]; exact i7a
  · rw [hpo _ (by omega)]; exact i7b
  · rw [hpo _ (by omega)]; exact i7c
  · intro i h1 h2
    rw [hpo _ (by omega)]; exact i7 i (by omega) h2
  · intro i hi
    by_cases q : i = 3 + cnP c 102 k
    · subst q
      have a1 := hd 2 (by omega)
      have a2 := hd 3 (by omega)
      rw [show 13 + 5 * k + 2 = 15 + 5 * k by omega] at a1
      rw [show 13 + 5 * k + 3 = 16 + 5 * k by omega] at a2
      exact ⟨_, by omega, hp⟩
    · rw [hpo i q]; exact i9 i hi
section MR
variable {T : Nat → Int32} {c : Nat → Nat} {n : Nat}
theorem m_readSpot_y (h : holdT T c n) {q m : Nat} {rd : Nat → Int32} (hm : m < 8) (h11 : rd 11 = nI m) (hA : ∀ j, j < 2 → gdR c n (q + j) 0 5) (hB : ∀ j, j < 2 → gdR c n (q + 2 + j) 1 9) : f_X7_readSpot (nI n) (nI q) T rd = some (1, nI (q + 4), upd (fb_put (fb_put rd (fun j => nI (c (q + j) - 48)) (14 + 4 * m) 2) (fun j => nI (c (q + 2 + j) - 48)) (14 + 4 * m + 2) 2) 11 (nI (m + 1))) := by
  unfold f_X7_readSpot
  simp (disch := omega) only [kz_le, kz_lt, kz_eq, kz_cl, nI_add, pk_mul, pk_sub, Option.bind_some, nm_, if_pos, if_neg, if_true, if_false, kz_ix2, nz_all, nz_eq, nz_le, nz_eq2, lz_0, lz_1, lz_2, lz_3, lz_4, lz_5, lz_6, lz_7, lz_8, lz_9, lz_10, lz_11, lz_12, lz_13, lz_14, lz_15, lz_16, lz_17, lz_18, lz_20, lz_22, lz_23, lz_24, lz_26, lz_30, lz_31, lz_32, lz_46, lz_47, lz_48, lz_50, lz_58, lz_59, lz_60, lz_61, lz_63, lz_64, lz_76, lz_78, lz_81, lz_99, lz_100, lz_102, lz_115, lz_119, lz_126, lz_127, lz_255, lz_256, lz_999, lz_1000, lz_10000, lz_65536, lz_8388608, h11]
  rw [m_readTo_y h (by omega) (by omega) (by omega) (by omega) hA]
  simp (disch := omega) only [kz_le, kz_lt, kz_eq, kz_cl, nI_add, pk_mul, pk_sub, Option.bind_some, nm_, if_pos, if_neg, if_true, if_false, kz_ix2, nz_all, nz_eq, nz_le, nz_eq2, lz_0, lz_1, lz_2, lz_3, lz_4, lz_5, lz_6, lz_7, lz_8, lz_9, lz_10, lz_11, lz_12, lz_13, lz_14, lz_15, lz_16, lz_17, lz_18, lz_20, lz_22, lz_23, lz_24, lz_26, lz_30, lz_31, lz_32, lz_46, lz_47, lz_48, lz_50, lz_58, lz_59, lz_60, lz_61, lz_63, lz_64, lz_76, lz_78, lz_81, lz_99, lz_100, lz_102, lz_115, lz_119, lz_126, lz_127, lz_255, lz_256, lz_999, lz_1000, lz_10000, lz_65536, lz_8388608, un3]
  rw [m_readTo_y h (by omega) (by omega) (by omega) (by omega) hB]
  simp (disch := omega) only [kz_le, kz_lt, kz_eq, kz_cl, nI_add, pk_mul, pk_sub, Option.bind_some, nm_, if_pos, if_neg, if_true, if_false, kz_ix2, nz_all, nz_eq, nz_le, nz_eq2, lz_0, lz_1, lz_2, lz_3, lz_4, lz_5, lz_6, lz_7, lz_8, lz_9, lz_10, lz_11, lz_12, lz_13, lz_14, lz_15, lz_16, lz_17, lz_18, lz_20, lz_22, lz_23, lz_24, lz_26, lz_30, lz_31, lz_32, lz_46, lz_47, lz_48, lz_50, lz_58, lz_59, lz_60, lz_61, lz_63, lz_64, lz_76, lz_78, lz_81, lz_99, lz_100, lz_102, lz_115, lz_119, lz_126, lz_127, lz_255, lz_256, lz_999, lz_1000, lz_10000, lz_65536, lz_8388608, un3]
  rw [fb_put_out (by omega), fb_put_out (by omega), h11, nI_add]
theorem m_readSpot_n (h : holdT T c n) {q m r : Nat} {rd : Nat → Int32} (hm : m < 8) (h11 : rd 11 = nI m) (hr : r < 4) (hq : q + r ≤ n) (hg : ∀ j, j < r → gdR c n (q + j) (if j < 2 then 0 else 1) (if j < 2 then 5 else 9)) (hb : ¬ gdR c n (q + r) (if r < 2 then 0 else 1) (if r < 2 then 5 else 9)) : ∃ rd', f_X7_readSpot (nI n) (nI q) T rd = some (0, nI (q + r), rd') := by
  unfold f_X7_readSpot
  simp (disch := omega) only [kz_le, kz_lt, kz_eq, kz_cl, nI_add, pk_mul, pk_sub, Option.bind_some, nm_, if_pos, if_neg, if_true, if_false, kz_ix2, nz_all, nz_eq, nz_le, nz_eq2, lz_0, lz_1, lz_2, lz_3, lz_4, lz_5, lz_6, lz_7, lz_8, lz_9, lz_10, lz_11, lz_12, lz_13, lz_14, lz_15, lz_16, lz_17, lz_18, lz_20, lz_22, lz_23, lz_24, lz_26, lz_30, lz_31, lz_32, lz_46, lz_47, lz_48, lz_50, lz_58, lz_59, lz_60, lz_61, lz_63, lz_64, lz_76, lz_78, lz_81, lz_99, lz_100, lz_102, lz_115, lz_119, lz_126, lz_127, lz_255, lz_256, lz_999, lz_1000, lz_10000, lz_65536, lz_8388608, h11]
  by_cases hr2 : r < 2
  · rw [if_pos hr2, if_pos hr2] at hb
    obtain ⟨rd', e⟩ := m_readTo_n h (a := 14 + 4 * m) (many := 2) (lo := 0) (hi := 5) (i := q) (j0 := r) (by omega) (by omega) (by omega) (by omega) hr2 hq (fun j hj => by have := hg j hj; rw [if_pos (by omega), if_pos (by omega)] at this; exact this) hb rd
    rw [e]
    simp (disch := omega) only [kz_le, kz_lt, kz_eq, kz_cl, nI_add, pk_mul, pk_sub, Option.bind_some, nm_, if_pos, if_neg, if_true, if_false, kz_ix2, nz_all, nz_eq, nz_le, nz_eq2, lz_0, lz_1, lz_2, lz_3, lz_4, lz_5, lz_6, lz_7, lz_8, lz_9, lz_10, lz_11, lz_12, lz_13, lz_14, lz_15, lz_16, lz_17, lz_18, lz_20, lz_22, lz_23, lz_24, lz_26, lz_30, lz_31, lz_32, lz_46, lz_47, lz_48, lz_50, lz_58, lz_59, lz_60, lz_61, lz_63, lz_64, lz_76, lz_78, lz_81, lz_99, lz_100, lz_102, lz_115, lz_119, lz_126, lz_127, lz_255, lz_256, lz_999, lz_1000, lz_10000, lz_65536, lz_8388608, un3]
    exact ⟨_, rfl⟩
  · rw [if_neg hr2, if_neg hr2] at hb
    have hA : ∀ j, j < 2 → gdR c n (q + j) 0 5 := fun j hj => by have := hg j (by omega); rw [if_pos hj, if_pos hj] at this; exact this
    rw [m_readTo_y h (by omega) (by omega) (by omega) (by omega) hA]
    simp (disch := omega) only [kz_le, kz_lt, kz_eq, kz_cl, nI_add, pk_mul, pk_sub, Option.bind_some, nm_, if_pos, if_neg, if_true, if_false, kz_ix2, nz_all, nz_eq, nz_le, nz_eq2, lz_0, lz_1, lz_2, lz_3, lz_4, lz_5, lz_6, lz_7, lz_8, lz_9, lz_10, lz_11, lz_12, lz_13, lz_14, lz_15, lz_16, lz_17, lz_18, lz_20, lz_22, lz_23, lz_24, lz_26, lz_30, lz_31, lz_32, lz_46, lz_47, lz_48, lz_50, lz_58, lz_59, lz_60, lz_61, lz_63, lz_64, lz_76, lz_78, lz_81, lz_99, lz_100, lz_102, lz_115, lz_119, lz_126, lz_127, lz_255, lz_256, lz_999, lz_1000, lz_10000, lz_65536, lz_8388608, un3]
    obtain ⟨rd', e⟩ := m_readTo_n h (a := 14 + 4 * m + 2) (many := 2) (lo := 1) (hi := 9) (i := q + 2) (j0 := r - 2) (by omega) (by omega) (by omega) (by omega) (by omega) (by omega) (fun j hj => by have := hg (2 + j) (by omega); rw [if_neg (by omega), if_neg (by omega)] at this; rw [show q + 2 + j = q + (2 + j) by omega]; exact this) (by rw [show q + 2 + (r - 2) = q + r by omega]; exact hb) (fb_put rd (fun j => nI (c (q + j) - 48)) (14 + 4 * m) 2)
    rw [e]
    simp (disch := omega) only [kz_le, kz_lt, kz_eq, kz_cl, nI_add, pk_mul, pk_sub, Option.bind_some, nm_, if_pos, if_neg, if_true, if_false, kz_ix2, nz_all, nz_eq, nz_le, nz_eq2, lz_0, lz_1, lz_2, lz_3, lz_4, lz_5, lz_6, lz_7, lz_8, lz_9, lz_10, lz_11, lz_12, lz_13, lz_14, lz_15, lz_16, lz_17, lz_18, lz_20, lz_22, lz_23, lz_24, lz_26, lz_30, lz_31, lz_32, lz_46, lz_47, lz_48, lz_50, lz_58, lz_59, lz_60, lz_61, lz_63, lz_64, lz_76, lz_78, lz_81, lz_99, lz_100, lz_102, lz_115, lz_119, lz_126, lz_127, lz_255, lz_256, lz_999, lz_1000, lz_10000, lz_65536, lz_8388608, un3]
    rw [show q + 2 + (r - 2) = q + r by omega]
    exact ⟨_, rfl⟩
theorem m_readPoint_y (h : holdT T c n) {q m : Nat} {rd rp : Nat → Int32} (hm : m < 6) (h12 : rd 12 = nI m) (hA : ∀ j, j < 2 → gdR c n (q + j) 0 5) (hB : ∀ j, j < 2 → gdR c n (q + 2 + j) 0 9) : f_X7_readPoint (nI n) (nI q) T rd rp = some (1, nI (q + 4), upd (fb_put rd (fun j => nI (c (q + j) - 48)) (46 + 2 * m) 2) 12 (nI (m + 1)), upd rp (3 + m) (nI (10 * (c (q + 2) - 48) + (c (q + 3) - 48)))) := by
  have hn := h.1
  have b0 := hB 0 (by omega)
  have b1 := hB 1 (by omega)
  have c0 := (h.2 _ b0.1).2
  have c1 := (h.2 _ b1.1).2
  rw [Nat.add_zero] at b0 c0
  rw [show q + 2 + 1 = q + 3 by omega] at b1 c1
  unfold f_X7_readPoint bk_X7_readPoint_52
  simp (disch := omega) only [kz_le, kz_lt, kz_eq, kz_cl, nI_add, pk_mul, pk_sub, Option.bind_some, nm_, if_pos, if_neg, if_true, if_false, kz_ix2, nz_all, nz_eq, nz_le, nz_eq2, lz_0, lz_1, lz_2, lz_3, lz_4, lz_5, lz_6, lz_7, lz_8, lz_9, lz_10, lz_11, lz_12, lz_13, lz_14, lz_15, lz_16, lz_17, lz_18, lz_20, lz_22, lz_23, lz_24, lz_26, lz_30, lz_31, lz_32, lz_46, lz_47, lz_48, lz_50, lz_58, lz_59, lz_60, lz_61, lz_63, lz_64, lz_76, lz_78, lz_81, lz_99, lz_100, lz_102, lz_115, lz_119, lz_126, lz_127, lz_255, lz_256, lz_999, lz_1000, lz_10000, lz_65536, lz_8388608, h12]
  rw [m_readTo_y h (by omega) (by omega) (by omega) (by omega) hA]
  simp (disch := omega) only [kz_le, kz_lt, kz_eq, kz_cl, nI_add, pk_mul, pk_sub, Option.bind_some, nm_, if_pos, if_neg, if_true, if_false, kz_ix2, nz_all, nz_eq, nz_le, nz_eq2, lz_0, lz_1, lz_2, lz_3, lz_4, lz_5, lz_6, lz_7, lz_8, lz_9, lz_10, lz_11, lz_12, lz_13, lz_14, lz_15, lz_16, lz_17, lz_18, lz_20, lz_22, lz_23, lz_24, lz_26, lz_30, lz_31, lz_32, lz_46, lz_47, lz_48, lz_50, lz_58, lz_59, lz_60, lz_61, lz_63, lz_64, lz_76, lz_78, lz_81, lz_99, lz_100, lz_102, lz_115, lz_119, lz_126, lz_127, lz_255, lz_256, lz_999, lz_1000, lz_10000, lz_65536, lz_8388608, un3]
  rw [m_fig_y h (by omega) (by omega) b0]
  simp (disch := omega) only [kz_le, kz_lt, kz_eq, kz_cl, nI_add, pk_mul, pk_sub, Option.bind_some, nm_, if_pos, if_neg, if_true, if_false, kz_ix2, nz_all, nz_eq, nz_le, nz_eq2, lz_0, lz_1, lz_2, lz_3, lz_4, lz_5, lz_6, lz_7, lz_8, lz_9, lz_10, lz_11, lz_12, lz_13, lz_14, lz_15, lz_16, lz_17, lz_18, lz_20, lz_22, lz_23, lz_24, lz_26, lz_30, lz_31, lz_32, lz_46, lz_47, lz_48, lz_50, lz_58, lz_59, lz_60, lz_61, lz_63, lz_64, lz_76, lz_78, lz_81, lz_99, lz_100, lz_102, lz_115, lz_119, lz_126, lz_127, lz_255, lz_256, lz_999, lz_1000, lz_10000, lz_65536, lz_8388608, un2, if_false]
  rw [show q + 2 + 1 = q + 3 by omega, m_fig_y h (by omega) (by omega) b1]
  simp (disch := omega) only [kz_le, kz_lt, kz_eq, kz_cl, nI_add, pk_mul, pk_sub, Option.bind_some, nm_, if_pos, if_neg, if_true, if_false, kz_ix2, nz_all, nz_eq, nz_le, nz_eq2, lz_0, lz_1, lz_2, lz_3, lz_4, lz_5, lz_6, lz_7, lz_8, lz_9, lz_10, lz_11, lz_12, lz_13, lz_14, lz_15, lz_16, lz_17, lz_18, lz_20, lz_22, lz_23, lz_24, lz_26, lz_30, lz_31, lz_32, lz_46, lz_47, lz_48, lz_50, lz_58, lz_59, lz_60, lz_61, lz_63, lz_64, lz_76, lz_78, lz_81, lz_99, lz_100, lz_102, lz_115, lz_119, lz_126, lz_127, lz_255, lz_256, lz_999, lz_1000, lz_10000, lz_65536, lz_8388608, un2, if_false]
  rw [fb_put_out (by omega), h12]
  simp (disch := omega) only [kz_le, kz_lt, kz_eq, kz_cl, nI_add, pk_mul, pk_sub, Option.bind_some, nm_, if_pos, if_neg, if_true, if_false, kz_ix2, nz_all, nz_eq, nz_le, nz_eq2, lz_0, lz_1, lz_2, lz_3, lz_4, lz_5, lz_6, lz_7, lz_8, lz_9, lz_10, lz_11, lz_12, lz_13, lz_14, lz_15, lz_16, lz_17, lz_18, lz_20, lz_22, lz_23, lz_24, lz_26, lz_30, lz_31, lz_32, lz_46, lz_47, lz_48, lz_50, lz_58, lz_59, lz_60, lz_61, lz_63, lz_64, lz_76, lz_78, lz_81, lz_99, lz_100, lz_102, lz_115, lz_119, lz_126, lz_127, lz_255, lz_256, lz_999, lz_1000, lz_10000, lz_65536, lz_8388608]
theorem m_readPoint_n (h : holdT T c n) {q m r : Nat} {rd rp : Nat → Int32} (hm : m < 6) (h12 : rd 12 = nI m) (hr : r < 4) (hq : q + r ≤ n) (hg : ∀ j, j < r → gdR c n (q + j) 0 (if j < 2 then 5 else 9)) (hb : ¬ gdR c n (q + r) 0 (if r < 2 then 5 else 9)) : ∃ rd' rp', f_X7_readPoint (nI n) (nI q) T rd rp = some (0, nI (q + r), rd', rp') := by
  have hn := h.1
  unfold f_X7_readPoint bk_X7_readPoint_52
  simp (disch := omega) only [kz_le, kz_lt, kz_eq, kz_cl, nI_add, pk_mul, pk_sub, Option.bind_some, nm_, if_pos, if_neg, if_true, if_false, kz_ix2, nz_all, nz_eq, nz_le, nz_eq2, lz_0, lz_1, lz_2, lz_3, lz_4, lz_5, lz_6, lz_7, lz_8, lz_9, lz_10, lz_11, lz_12, lz_13, lz_14, lz_15, lz_16, lz_17, lz_18, lz_20, lz_22, lz_23, lz_24, lz_26, lz_30, lz_31, lz_32, lz_46, lz_47, lz_48, lz_50, lz_58, lz_59, lz_60, lz_61, lz_63, lz_64, lz_76, lz_78, lz_81, lz_99, lz_100, lz_102, lz_115, lz_119, lz_126, lz_127, lz_255, lz_256, lz_999, lz_1000, lz_10000, lz_65536, lz_8388608, h12]
  by_cases hr2 : r < 2
  · rw [if_pos hr2] at hb
    obtain ⟨rd', e⟩ := m_readTo_n h (a := 46 + 2 * m) (many := 2) (lo := 0) (hi := 5) (i := q) (j0 := r) (by omega) (by omega) (by omega) (by omega) hr2 hq (fun j hj => by have := hg j hj; rw [if_pos (by omega)] at this; exact this) hb rd
    rw [e]
    simp (disch := omega) only [kz_le, kz_lt, kz_eq, kz_cl, nI_add, pk_mul, pk_sub, Option.bind_some, nm_, if_pos, if_neg, if_true, if_false, kz_ix2, nz_all, nz_eq, nz_le, nz_eq2, lz_0, lz_1, lz_2, lz_3, lz_4, lz_5, lz_6, lz_7, lz_8, lz_9, lz_10, lz_11, lz_12, lz_13, lz_14, lz_15, lz_16, lz_17, lz_18, lz_20, lz_22, lz_23, lz_24, lz_26, lz_30, lz_31, lz_32, lz_46, lz_47, lz_48, lz_50, lz_58, lz_59, lz_60, lz_61, lz_63, lz_64, lz_76, lz_78, lz_81, lz_99, lz_100, lz_102, lz_115, lz_119, lz_126, lz_127, lz_255, lz_256, lz_999, lz_1000, lz_10000, lz_65536, lz_8388608, un3]
    exact ⟨_, _, rfl⟩
  · rw [if_neg hr2] at hb
    have hA : ∀ j, j < 2 → gdR c n (q + j) 0 5 := fun j hj => by have := hg j (by omega); rw [if_pos hj] at this; exact this
    rw [m_readTo_y h (by omega) (by omega) (by omega) (by omega) hA]
    simp (disch := omega) only [kz_le, kz_lt, kz_eq, kz_cl, nI_add, pk_mul, pk_sub, Option.bind_some, nm_, if_pos, if_neg, if_true, if_false, kz_ix2, nz_all, nz_eq, nz_le, nz_eq2, lz_0, lz_1, lz_2, lz_3, lz_4, lz_5, lz_6, lz_7, lz_8, lz_9, lz_10, lz_11, lz_12, lz_13, lz_14, lz_15, lz_16, lz_17, lz_18, lz_20, lz_22, lz_23, lz_24, lz_26, lz_30, lz_31, lz_32, lz_46, lz_47, lz_48, lz_50, lz_58, lz_59, lz_60, lz_61, lz_63, lz_64, lz_76, lz_78, lz_81, lz_99, lz_100, lz_102, lz_115, lz_119, lz_126, lz_127, lz_255, lz_256, lz_999, lz_1000, lz_10000, lz_65536, lz_8388608, un3]
    by_cases hr3 : r = 2
    · subst hr3
      rw [m_fig_n h hq (by omega) (by omega) hb]
      simp only [Option.bind_some, un2, nz_all, if_true]
      exact ⟨_, _, rfl⟩
    · have b0 := hg 2 (by omega)
      rw [if_neg (by omega)] at b0
      have c0 := (h.2 _ b0.1).2
      have : r = 3 := by omega
      subst this
      rw [m_fig_y h (by omega) (by omega) b0]
      simp (disch := omega) only [kz_le, kz_lt, kz_eq, kz_cl, nI_add, pk_mul, pk_sub, Option.bind_some, nm_, if_pos, if_neg, if_true, if_false, kz_ix2, nz_all, nz_eq, nz_le, nz_eq2, lz_0, lz_1, lz_2, lz_3, lz_4, lz_5, lz_6, lz_7, lz_8, lz_9, lz_10, lz_11, lz_12, lz_13, lz_14, lz_15, lz_16, lz_17, lz_18, lz_20, lz_22, lz_23, lz_24, lz_26, lz_30, lz_31, lz_32, lz_46, lz_47, lz_48, lz_50, lz_58, lz_59, lz_60, lz_61, lz_63, lz_64, lz_76, lz_78, lz_81, lz_99, lz_100, lz_102, lz_115, lz_119, lz_126, lz_127, lz_255, lz_256, lz_999, lz_1000, lz_10000, lz_65536, lz_8388608, un2, if_false]
      rw [show q + 2 + 1 = q + 3 by omega, m_fig_n h hq (by omega) (by omega) hb]
      simp only [Option.bind_some, un2, nz_all, if_true]
      exact ⟨_, _, rfl⟩
theorem gdR_rng {q lo hi : Nat} (h : gdR c n q lo hi) : 48 + lo ≤ c q ∧ c q ≤ 48 + hi := by
  have := h.2
  unfold inR at this
  exact of_decide_eq_true this
theorem m_readWall_y (h : holdT T c n) {q m : Nat} {rd : Nat → Int32} (hm : m < 5) (h13 : rd 13 = nI m) (hA : ∀ j, j < 4 → gdR c n (q + j) 0 6) (hs : ¬ (c q = c (q + 2) ∧ c (q + 1) = c (q + 3))) : f_X7_readWall (nI n) (nI q) T rd = some (1, nI (q + 4), upd (fb_put (fb_put rd (fun j => nI (c (q + j) - 48)) (58 + 4 * m) 3) (fun j => nI (c (q + 3 + j) - 48)) (58 + 4 * m + 3) 1) 13 (nI (m + 1))) := by
  have g0 := gdR_rng (hA 0 (by omega))
  have g1 := gdR_rng (hA 1 (by omega))
  have g2 := gdR_rng (hA 2 (by omega))
  have g3 := gdR_rng (hA 3 (by omega))
  simp only [Nat.add_zero] at g0
  unfold f_X7_readWall bk_X7_readWall_91
  simp (disch := omega) only [kz_le, kz_lt, kz_eq, kz_cl, nI_add, pk_mul, pk_sub, Option.bind_some, nm_, if_pos, if_neg, if_true, if_false, kz_ix2, nz_all, nz_eq, nz_le, nz_eq2, lz_0, lz_1, lz_2, lz_3, lz_4, lz_5, lz_6, lz_7, lz_8, lz_9, lz_10, lz_11, lz_12, lz_13, lz_14, lz_15, lz_16, lz_17, lz_18, lz_20, lz_22, lz_23, lz_24, lz_26, lz_30, lz_31, lz_32, lz_46, lz_47, lz_48, lz_50, lz_58, lz_59, lz_60, lz_61, lz_63, lz_64, lz_76, lz_78, lz_81, lz_99, lz_100, lz_102, lz_115, lz_119, lz_126, lz_127, lz_255, lz_256, lz_999, lz_1000, lz_10000, lz_65536, lz_8388608, h13]
  rw [m_readTo_y h (by omega) (by omega) (by omega) (by omega) (fun j hj => hA j (by omega))]
  simp (disch := omega) only [kz_le, kz_lt, kz_eq, kz_cl, nI_add, pk_mul, pk_sub, Option.bind_some, nm_, if_pos, if_neg, if_true, if_false, kz_ix2, nz_all, nz_eq, nz_le, nz_eq2, lz_0, lz_1, lz_2, lz_3, lz_4, lz_5, lz_6, lz_7, lz_8, lz_9, lz_10, lz_11, lz_12, lz_13, lz_14, lz_15, lz_16, lz_17, lz_18, lz_20, lz_22, lz_23, lz_24, lz_26, lz_30, lz_31, lz_32, lz_46, lz_47, lz_48, lz_50, lz_58, lz_59, lz_60, lz_61, lz_63, lz_64, lz_76, lz_78, lz_81, lz_99, lz_100, lz_102, lz_115, lz_119, lz_126, lz_127, lz_255, lz_256, lz_999, lz_1000, lz_10000, lz_65536, lz_8388608, un3]
  rw [m_readTo_y h (by omega) (by omega) (by omega) (by omega) (fun j hj => by rw [show q + 3 + j = q + (3 + j) by omega]; exact hA (3 + j) (by omega))]
  simp (disch := omega) only [kz_le, kz_lt, kz_eq, kz_cl, nI_add, pk_mul, pk_sub, Option.bind_some, nm_, if_pos, if_neg, if_true, if_false, kz_ix2, nz_all, nz_eq, nz_le, nz_eq2, lz_0, lz_1, lz_2, lz_3, lz_4, lz_5, lz_6, lz_7, lz_8, lz_9, lz_10, lz_11, lz_12, lz_13, lz_14, lz_15, lz_16, lz_17, lz_18, lz_20, lz_22, lz_23, lz_24, lz_26, lz_30, lz_31, lz_32, lz_46, lz_47, lz_48, lz_50, lz_58, lz_59, lz_60, lz_61, lz_63, lz_64, lz_76, lz_78, lz_81, lz_99, lz_100, lz_102, lz_115, lz_119, lz_126, lz_127, lz_255, lz_256, lz_999, lz_1000, lz_10000, lz_65536, lz_8388608, un3]
  have v0 : fb_put (fb_put rd (fun j => nI (c (q + j) - 48)) (58 + 4 * m) 3) (fun j => nI (c (q + 3 + j) - 48)) (58 + 4 * m + 3) 1 (58 + 4 * m) = nI (c q - 48) := by rw [fb_put_out (by omega), fb_put_in (by omega) (by omega)]; simp
  have v1 : fb_put (fb_put rd (fun j => nI (c (q + j) - 48)) (58 + 4 * m) 3) (fun j => nI (c (q + 3 + j) - 48)) (58 + 4 * m + 3) 1 (58 + 4 * m + 1) = nI (c (q + 1) - 48) := by rw [fb_put_out (by omega), fb_put_in (by omega) (by omega), show 58 + 4 * m + 1 - (58 + 4 * m) = 1 by omega]
  have v2 : fb_put (fb_put rd (fun j => nI (c (q + j) - 48)) (58 + 4 * m) 3) (fun j => nI (c (q + 3 + j) - 48)) (58 + 4 * m + 3) 1 (58 + 4 * m + 2) = nI (c (q + 2) - 48) := by rw [fb_put_out (by omega), fb_put_in (by omega) (by omega), show 58 + 4 * m + 2 - (58 + 4 * m) = 2 by omega]
  have v3 : fb_put (fb_put rd (fun j => nI (c (q + j) - 48)) (58 + 4 * m) 3) (fun j => nI (c (q + 3 + j) - 48)) (58 + 4 * m + 3) 1 (58 + 4 * m + 3) = nI (c (q + 3) - 48) := by rw [fb_put_in (by omega) (by omega), show 58 + 4 * m + 3 - (58 + 4 * m + 3) = 0 by omega]
  have v4 : fb_put (fb_put rd (fun j => nI (c (q + j) - 48)) (58 + 4 * m) 3) (fun j => nI (c (q + 3 + j) - 48)) (58 + 4 * m + 3) 1 13 = nI m := by rw [fb_put_out (by omega), fb_put_out (by omega), h13]
  rw [v4]
  simp (disch := omega) only [v0, v1, v2, v3, kz_eq, nI_add]
  by_cases e1 : c q - 48 = c (q + 2) - 48
  · rw [if_pos e1, if_neg (by omega)]
  · rw [if_neg e1]
theorem m_readWall_n (h : holdT T c n) {q m r : Nat} {rd : Nat → Int32} (hm : m < 5) (h13 : rd 13 = nI m) (hr : r < 4) (hq : q + r ≤ n) (hg : ∀ j, j < r → gdR c n (q + j) 0 6) (hb : ¬ gdR c n (q + r) 0 6 ∨ (r = 3 ∧ c q = c (q + 2) ∧ c (q + 1) = c (q + 3))) : ∃ rd', f_X7_readWall (nI n) (nI q) T rd = some (0, nI (q + r), rd') := by
  unfold f_X7_readWall bk_X7_readWall_91
  simp (disch := omega) only [kz_le, kz_lt, kz_eq, kz_cl, nI_add, pk_mul, pk_sub, Option.bind_some, nm_, if_pos, if_neg, if_true, if_false, kz_ix2, nz_all, nz_eq, nz_le, nz_eq2, lz_0, lz_1, lz_2, lz_3, lz_4, lz_5, lz_6, lz_7, lz_8, lz_9, lz_10, lz_11, lz_12, lz_13, lz_14, lz_15, lz_16, lz_17, lz_18, lz_20, lz_22, lz_23, lz_24, lz_26, lz_30, lz_31, lz_32, lz_46, lz_47, lz_48, lz_50, lz_58, lz_59, lz_60, lz_61, lz_63, lz_64, lz_76, lz_78, lz_81, lz_99, lz_100, lz_102, lz_115, lz_119, lz_126, lz_127, lz_255, lz_256, lz_999, lz_1000, lz_10000, lz_65536, lz_8388608, h13]
  by_cases hr3 : r < 3
  · obtain ⟨rd', e⟩ := m_readTo_n h (a := 58 + 4 * m) (many := 3) (lo := 0) (hi := 6) (i := q) (j0 := r) (by omega) (by omega) (by omega) (by omega) hr3 hq hg (hb.elim id (fun z => absurd z.1 (by omega))) rd
    rw [e]
    simp (disch := omega) only [kz_le, kz_lt, kz_eq, kz_cl, nI_add, pk_mul, pk_sub, Option.bind_some, nm_, if_pos, if_neg, if_true, if_false, kz_ix2, nz_all, nz_eq, nz_le, nz_eq2, lz_0, lz_1, lz_2, lz_3, lz_4, lz_5, lz_6, lz_7, lz_8, lz_9, lz_10, lz_11, lz_12, lz_13, lz_14, lz_15, lz_16, lz_17, lz_18, lz_20, lz_22, lz_23, lz_24, lz_26, lz_30, lz_31, lz_32, lz_46, lz_47, lz_48, lz_50, lz_58, lz_59, lz_60, lz_61, lz_63, lz_64, lz_76, lz_78, lz_81, lz_99, lz_100, lz_102, lz_115, lz_119, lz_126, lz_127, lz_255, lz_256, lz_999, lz_1000, lz_10000, lz_65536, lz_8388608, un3]
    exact ⟨_, rfl⟩
  · have er : r = 3 := by omega
    subst er
    rw [m_readTo_y h (by omega) (by omega) (by omega) (by omega) hg]
    simp (disch := omega) only [kz_le, kz_lt, kz_eq, kz_cl, nI_add, pk_mul, pk_sub, Option.bind_some, nm_, if_pos, if_neg, if_true, if_false, kz_ix2, nz_all, nz_eq, nz_le, nz_eq2, lz_0, lz_1, lz_2, lz_3, lz_4, lz_5, lz_6, lz_7, lz_8, lz_9, lz_10, lz_11, lz_12, lz_13, lz_14, lz_15, lz_16, lz_17, lz_18, lz_20, lz_22, lz_23, lz_24, lz_26, lz_30, lz_31, lz_32, lz_46, lz_47, lz_48, lz_50, lz_58, lz_59, lz_60, lz_61, lz_63, lz_64, lz_76, lz_78, lz_81, lz_99, lz_100, lz_102, lz_115, lz_119, lz_126, lz_127, lz_255, lz_256, lz_999, lz_1000, lz_10000, lz_65536, lz_8388608, un3]
    by_cases hb2 : gdR c n (q + 3) 0 6
    · obtain ⟨-, hs1, hs2⟩ := hb.resolve_left (fun z => z hb2)
      rw [m_readTo_y h (by omega) (by omega) (by omega) (by omega) (fun j hj => by rw [show q + 3 + j = q + (3 + j) by omega, show 3 + j = 3 by omega]; exact hb2)]
      simp (disch := omega) only [kz_le, kz_lt, kz_eq, kz_cl, nI_add, pk_mul, pk_sub, Option.bind_some, nm_, if_pos, if_neg, if_true, if_false, kz_ix2, nz_all, nz_eq, nz_le, nz_eq2, lz_0, lz_1, lz_2, lz_3, lz_4, lz_5, lz_6, lz_7, lz_8, lz_9, lz_10, lz_11, lz_12, lz_13, lz_14, lz_15, lz_16, lz_17, lz_18, lz_20, lz_22, lz_23, lz_24, lz_26, lz_30, lz_31, lz_32, lz_46, lz_47, lz_48, lz_50, lz_58, lz_59, lz_60, lz_61, lz_63, lz_64, lz_76, lz_78, lz_81, lz_99, lz_100, lz_102, lz_115, lz_119, lz_126, lz_127, lz_255, lz_256, lz_999, lz_1000, lz_10000, lz_65536, lz_8388608, un3]
      have v0 : fb_put (fb_put rd (fun j => nI (c (q + j) - 48)) (58 + 4 * m) 3) (fun j => nI (c (q + 3 + j) - 48)) (58 + 4 * m + 3) 1 (58 + 4 * m) = nI (c q - 48) := by rw [fb_put_out (by omega), fb_put_in (by omega) (by omega)]; simp
      have v1 : fb_put (fb_put rd (fun j => nI (c (q + j) - 48)) (58 + 4 * m) 3) (fun j => nI (c (q + 3 + j) - 48)) (58 + 4 * m + 3) 1 (58 + 4 * m + 1) = nI (c (q + 1) - 48) := by rw [fb_put_out (by omega), fb_put_in (by omega) (by omega), show 58 + 4 * m + 1 - (58 + 4 * m) = 1 by omega]
      have v2 : fb_put (fb_put rd (fun j => nI (c (q + j) - 48)) (58 + 4 * m) 3) (fun j => nI (c (q + 3 + j) - 48)) (58 + 4 * m + 3) 1 (58 + 4 * m + 2) = nI (c (q + 2) - 48) := by rw [fb_put_out (by omega), fb_put_in (by omega) (by omega), show 58 + 4 * m + 2 - (58 + 4 * m) = 2 by omega]
      have v3 : fb_put (fb_put rd (fun j => nI (c (q + j) - 48)) (58 + 4 * m) 3) (fun j => nI (c (q + 3 + j) - 48)) (58 + 4 * m + 3) 1 (58 + 4 * m + 3) = nI (c (q + 3) - 48) := by rw [fb_put_in (by omega) (by omega), show 58 + 4 * m + 3 - (58 + 4 * m + 3) = 0 by omega]
      simp only [v0, v1, v2, v3, hs1, hs2, if_true]
      exact ⟨_, rfl⟩
    · obtain ⟨rd', e⟩ := m_readTo_n h (a := 58 + 4 * m + 3) (many := 1) (lo := 0) (hi := 6) (i := q + 3) (j0 := 0) (by omega) (by omega) (by omega) (by omega) (by omega) (by omega) (fun j hj => absurd hj (by omega)) hb2 (fb_put rd (fun j => nI (c (q + j) - 48)) (58 + 4 * m) 3)
      rw [e]
      simp (disch := omega) only [kz_le, kz_lt, kz_eq, kz_cl, nI_add, pk_mul, pk_sub, Option.bind_some, nm_, if_pos, if_neg, if_true, if_false, kz_ix2, nz_all, nz_eq, nz_le, nz_eq2, lz_0, lz_1, lz_2, lz_3, lz_4, lz_5, lz_6, lz_7, lz_8, lz_9, lz_10, lz_11, lz_12, lz_13, lz_14, lz_15, lz_16, lz_17, lz_18, lz_20, lz_22, lz_23, lz_24, lz_26, lz_30, lz_31, lz_32, lz_46, lz_47, lz_48, lz_50, lz_58, lz_59, lz_60, lz_61, lz_63, lz_64, lz_76, lz_78, lz_81, lz_99, lz_100, lz_102, lz_115, lz_119, lz_126, lz_127, lz_255, lz_256, lz_999, lz_1000, lz_10000, lz_65536, lz_8388608, un3]
      exact ⟨_, rfl⟩
/-- the part that begins at 12 + 5k: how far it is right -/
def gP (c : Nat → Nat) (n k r : Nat) : Prop := 13 + 5 * k + r < n ∧ fitS c (13 + 5 * k + r) = true
theorem fit_r {k r : Nat} (hr : r < 4) : fitS c (13 + 5 * k + r) = fitP c (13 + 5 * k + r) (r + 1) := by
  unfold fitS
  rw [if_neg (by omega), if_pos (by omega), if_neg (by omega), show (13 + 5 * k + r - 12) % 5 = r + 1 by omega]
theorem fit_s {k r : Nat} (hr : r < 4) (hx : c (12 + 5 * k) = 115) : fitS c (13 + 5 * k + r) = inR c (13 + 5 * k + r) (if r < 2 then 0 else 1) (if r < 2 then 5 else 9) := by
  rw [fit_r hr]
  unfold fitP
  rw [show 13 + 5 * k + r - (r + 1) = 12 + 5 * k by omega, hx, if_neg (show ¬ 115 = 119 by omega), if_pos (show 115 = 115 from rfl)]
  by_cases h2 : r < 2
  · rw [if_neg (show ¬ 2 < r + 1 by omega), if_pos h2, if_pos h2]
  · rw [if_pos (show 2 < r + 1 by omega), if_neg h2, if_neg h2]
theorem fit_f {k r : Nat} (hr : r < 4) (hx : c (12 + 5 * k) = 102) : fitS c (13 + 5 * k + r) = inR c (13 + 5 * k + r) 0 (if r < 2 then 5 else 9) := by
  rw [fit_r hr]
  unfold fitP
  rw [show 13 + 5 * k + r - (r + 1) = 12 + 5 * k by omega, hx, if_neg (show ¬ 102 = 119 by omega), if_neg (show ¬ 102 = 115 by omega)]
  by_cases h2 : r < 2
  · rw [if_neg (show ¬ 2 < r + 1 by omega), if_pos h2]
  · rw [if_pos (show 2 < r + 1 by omega), if_neg h2]
theorem fit_w {k r : Nat} (hr : r < 4) (hx : c (12 + 5 * k) = 119) : fitS c (13 + 5 * k + r) = (inR c (13 + 5 * k + r) 0 6 && !(decide (r = 3) && (c (16 + 5 * k) == c (14 + 5 * k) && c (15 + 5 * k) == c (13 + 5 * k)))) := by
  rw [fit_r hr]
  unfold fitP
  rw [show 13 + 5 * k + r - (r + 1) = 12 + 5 * k by omega, hx, if_pos rfl]
  by_cases h2 : r = 3
  · subst h2
    rw [show 13 + 5 * k + 3 - 2 = 14 + 5 * k by omega, show 13 + 5 * k + 3 - 1 = 15 + 5 * k by omega, show 13 + 5 * k + 3 - 3 = 13 + 5 * k by omega, show 13 + 5 * k + 3 = 16 + 5 * k by omega]
    rfl
  · simp [h2]
end MR
