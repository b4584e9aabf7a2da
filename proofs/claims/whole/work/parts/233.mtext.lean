/-! THE TEXT: the reference's reading -/
theorem kz_b01i (p : Prop) [Decidable p] : ((if p then (1 : Int32) else 0) = 0) = ¬ p := by by_cases h : p <;> simp [h]
theorem m_in (x a b : Int32) : f_X7_in (Int32.toInt64 x) (Int32.toInt64 a) (Int32.toInt64 b) = some (if a ≤ x ∧ x ≤ b then 1 else 0) := by
  unfold f_X7_in
  simp only [lg_cmp_lt, lg_cmp_gt, fa_wide_lt]
  by_cases h1 : x < a
  · rw [if_pos h1, if_neg]
    intro h; exact absurd h1 (by rw [fa_lt]; have := (fa_le _ _).mp h.1; omega)
  · rw [if_neg h1]
    by_cases h2 : b < x
    · rw [if_pos h2, if_neg]
      intro h; exact absurd h2 (by rw [fa_lt]; have := (fa_le _ _).mp h.2; omega)
    · rw [if_neg h2, if_pos ⟨fa_of_nlt h1, fa_of_nlt h2⟩]
theorem kz_le_sub {a b c : Nat} (ha : a < 2 ^ 29) (hb : b < 2 ^ 29) (hc : c < 2 ^ 29) : (nI c ≤ nI a - nI b) = (b + c ≤ a) := by
  rw [fa_le, pk_sub_toInt (by omega) (by omega), nI_toInt (by omega)]
  exact propext ⟨fun h => by omega, fun h => by omega⟩
theorem kz_sub_le {a b c : Nat} (ha : a < 2 ^ 29) (hb : b < 2 ^ 29) (hc : c < 2 ^ 29) : (nI a - nI b ≤ nI c) = (a ≤ b + c) := by
  rw [fa_le, pk_sub_toInt (by omega) (by omega), nI_toInt (by omega)]
  exact propext ⟨fun h => by omega, fun h => by omega⟩
theorem kz_m9le {a : Nat} (ha : a < 2 ^ 31) : (nI a ≤ (-9 : Int32)) = False := by
  rw [fa_le, nI_toInt ha]
  have : (-9 : Int32).toInt = -9 := by decide
  rw [this]
  exact eq_false (by omega)
theorem kz_m9 {a : Nat} (ha : a < 2 ^ 31) : (nI a = (-9 : Int32)) = False := by
  rw [fa_eq, nI_toInt ha]
  have : (-9 : Int32).toInt = -9 := by decide
  rw [this]
  exact eq_false (by omega)
section MT
variable {T : Nat → Int32} {c : Nat → Nat} {n : Nat}
/-- the letter at i is there, a figure lo to hi -/
def gdR (c : Nat → Nat) (n i lo hi : Nat) : Prop := i < n ∧ inR c i lo hi = true
theorem m_fig_y (h : holdT T c n) {i lo hi : Nat} (hlo : lo ≤ 9) (hhi : hi ≤ 9) (hg : gdR c n i lo hi) : f_X7_figure (nI n) (nI i) T (nI lo) (nI hi) = some (nI (c i - 48), nI (i + 1)) := by
  have hn := h.1
  obtain ⟨hi0, hr⟩ := hg
  have hc := h.2 i hi0
  have hc2 := hc.2
  unfold inR at hr
  have hr := of_decide_eq_true hr
  unfold f_X7_figure bk_X7_figure_28
  simp (disch := omega) only [kz_le, kz_lt, kz_eq, kz_cl, nI_add, pk_mul, pk_sub, Option.bind_some, nm_, if_pos, if_neg, if_true, if_false, kz_ix2, nz_all, nz_eq, nz_le, nz_eq2, lz_0, lz_1, lz_2, lz_3, lz_4, lz_5, lz_6, lz_7, lz_8, lz_9, lz_10, lz_11, lz_12, lz_13, lz_14, lz_15, lz_16, lz_17, lz_18, lz_20, lz_22, lz_23, lz_24, lz_26, lz_30, lz_31, lz_32, lz_46, lz_47, lz_48, lz_50, lz_58, lz_59, lz_60, lz_61, lz_63, lz_64, lz_76, lz_78, lz_81, lz_99, lz_100, lz_102, lz_115, lz_119, lz_126, lz_127, lz_255, lz_256, lz_999, lz_1000, lz_10000, lz_65536, lz_8388608, hc.1, m_in]
theorem m_fig_n (h : holdT T c n) {i lo hi : Nat} (hi0 : i ≤ n) (hlo : lo ≤ 9) (hhi : hi ≤ 9) (hg : ¬ gdR c n i lo hi) : f_X7_figure (nI n) (nI i) T (nI lo) (nI hi) = some (-9, nI i) := by
  have hn := h.1
  unfold f_X7_figure bk_X7_figure_28
  by_cases hi : i < n
  · have hc := h.2 i hi
    have hc2 := hc.2
    unfold gdR inR at hg
    simp only [hi, true_and, decide_eq_true_eq] at hg
    simp (disch := omega) only [kz_le, kz_lt, kz_eq, kz_cl, nI_add, pk_mul, pk_sub, Option.bind_some, nm_, if_pos, if_neg, if_true, if_false, kz_ix2, nz_all, nz_eq, nz_le, nz_eq2, lz_0, lz_1, lz_2, lz_3, lz_4, lz_5, lz_6, lz_7, lz_8, lz_9, lz_10, lz_11, lz_12, lz_13, lz_14, lz_15, lz_16, lz_17, lz_18, lz_20, lz_22, lz_23, lz_24, lz_26, lz_30, lz_31, lz_32, lz_46, lz_47, lz_48, lz_50, lz_58, lz_59, lz_60, lz_61, lz_63, lz_64, lz_76, lz_78, lz_81, lz_99, lz_100, lz_102, lz_115, lz_119, lz_126, lz_127, lz_255, lz_256, lz_999, lz_1000, lz_10000, lz_65536, lz_8388608, hc.1, m_in]
    simp (disch := omega) only [kz_le_sub, kz_sub_le, if_neg hg, if_true]
  · simp only [m_in, Option.bind_some, kz_b01i]
    simp (disch := omega) only [kz_le, kz_m9le, if_pos]
    simp
theorem m_readTo_y (h : holdT T c n) {a many lo hi i : Nat} (ha : a + many ≤ 78) (hm : many ≤ 50) (hlo : lo ≤ 9) (hhi : hi ≤ 9) (hg : ∀ j, j < many → gdR c n (i + j) lo hi) (rd : Nat → Int32) : f_X7_readTo (nI n) (nI i) T rd (nI a) (nI many) (nI lo) (nI hi) = some (1, nI (i + many), fb_put rd (fun j => nI (c (i + j) - 48)) a many) := by
  have hn := h.1
  unfold f_X7_readTo
  have key := lp_up3e (fun n2 x y z k => lp_X7_readTo_6 (nI n) T (nI a) (nI many) (nI lo) (nI hi) n2 x y z k) (fun j => nI (i + j)) (fun j => fb_put rd (fun j => nI (c (i + j) - 48)) a j) (fun _ => (1 : Int32)) many 0 (some (1, nI (i + many), fb_put rd (fun j => nI (c (i + j) - 48)) a many)) (fun n2 => ?_) (fun n2 j hj => ?_) 1000 0 (by omega) (by omega)
  · rw [fb_put_0] at key
    exact key
  · rw [le_X7_readTo_6]
    unfold bk_X7_readTo_6
    rw [if_pos (nI_le (Nat.le_refl _) (by omega)), if_pos (by decide)]
  · rw [le_X7_readTo_6]
    unfold bk_X7_readTo_6
    have hgj := hg j hj
    have hc2 := (h.2 (i + j) hgj.1).2
    rw [if_neg (nI_ge hj (by omega)), if_neg (by decide), m_fig_y h hlo hhi hgj]
    simp only [Option.bind_some, un2, nI_add, nm_]
    simp (disch := omega) only [kz_cl]
    rw [if_neg (show ¬ (nI (a + j) < 0 ∨ 78 ≤ a + j) from fun q => q.elim (nI_pos (by omega)) (by omega)), if_neg (show ¬ (nI (a + j) < 0 ∨ 78 ≤ a + j) from fun q => q.elim (nI_pos (by omega)) (by omega))]
    rw [pk_us, if_neg (by rw [kz_m9 (by omega)]; exact id), nI_1, fb_put_succ rd (fun j => nI (c (i + j) - 48)) a j]
    rfl
theorem m_readTo_n (h : holdT T c n) {a many lo hi i j0 : Nat} (ha : a + many ≤ 78) (hm : many ≤ 50) (hlo : lo ≤ 9) (hhi : hi ≤ 9) (hj0 : j0 < many) (hin : i + j0 ≤ n) (hg : ∀ j, j < j0 → gdR c n (i + j) lo hi) (hb : ¬ gdR c n (i + j0) lo hi) (rd : Nat → Int32) : ∃ rd', f_X7_readTo (nI n) (nI i) T rd (nI a) (nI many) (nI lo) (nI hi) = some (0, nI (i + j0), rd') := by
  have hn := h.1
  unfold f_X7_readTo
  have key := lp_up3e (fun n2 x y z k => lp_X7_readTo_6 (nI n) T (nI a) (nI many) (nI lo) (nI hi) n2 x y z k) (fun j => nI (i + j)) (fun j => fb_put rd (fun j => nI (c (i + j) - 48)) a j) (fun _ => (1 : Int32)) j0 1 (some (0, nI (i + j0), upd (fb_put rd (fun j => nI (c (i + j) - 48)) a j0) (a + j0) (-9))) (fun n2 => ?_) (fun n2 j hj => ?_) 1000 0 (by omega) (by omega)
  · rw [fb_put_0] at key
    exact ⟨_, key⟩
  · rw [show n2 + 1 + 1 = (n2 + 1) + 1 from rfl, le_X7_readTo_6]
    unfold bk_X7_readTo_6
    rw [if_neg (nI_ge hj0 (by omega)), if_neg (by decide), m_fig_n h hin hlo hhi hb]
    simp only [Option.bind_some, un2, nI_add, nm_]
    simp (disch := omega) only [kz_cl]
    rw [if_neg (show ¬ (nI (a + j0) < 0 ∨ 78 ≤ a + j0) from fun q => q.elim (nI_pos (by omega)) (by omega)), if_neg (show ¬ (nI (a + j0) < 0 ∨ 78 ≤ a + j0) from fun q => q.elim (nI_pos (by omega)) (by omega))]
    rw [pk_us, if_pos rfl, le_X7_readTo_6]
    unfold bk_X7_readTo_6
    rw [if_pos (show (0 : Int32) &&& 1 = 0 by decide)]
    by_cases e : nI many ≤ nI j0 + 1
    · rw [if_pos e]
    · rw [if_neg e, if_pos rfl]
  · rw [le_X7_readTo_6]
    unfold bk_X7_readTo_6
    have hgj := hg j hj
    have hc2 := (h.2 (i + j) hgj.1).2
    rw [if_neg (nI_ge (by omega : j < many) (by omega)), if_neg (by decide), m_fig_y h hlo hhi hgj]
    simp only [Option.bind_some, un2, nI_add, nm_]
    simp (disch := omega) only [kz_cl]
    rw [if_neg (show ¬ (nI (a + j) < 0 ∨ 78 ≤ a + j) from fun q => q.elim (nI_pos (by omega)) (by omega)), if_neg (show ¬ (nI (a + j) < 0 ∨ 78 ≤ a + j) from fun q => q.elim (nI_pos (by omega)) (by omega))]
    rw [pk_us, if_neg (by rw [kz_m9 (by omega)]; exact id), nI_1, fb_put_succ rd (fun j => nI (c (i + j) - 48)) a j]
    rfl
end MT
