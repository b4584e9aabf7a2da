/-! THE REFERENCE'S TEST -/
def sgI (z : Int) : Int32 := if z ≤ 0 then (if 0 ≤ z then 0 else -1) else 1
theorem iI_le0 {z : Int} (h : -2147483648 ≤ z ∧ z ≤ 2147483647) : (iI z ≤ (0 : Int32)) = (z ≤ 0) := by
  rw [fa_le, iI_toInt h]
  rfl
theorem iI_0le {z : Int} (h : -2147483648 ≤ z ∧ z ≤ 2147483647) : ((0 : Int32) ≤ iI z) = (0 ≤ z) := by
  rw [fa_le, iI_toInt h]
  rfl
theorem m_side {a b c d e f : Nat} (ha : a < 20) (hb : b < 20) (hc : c < 20) (hd : d < 20) (he : e < 20) (hf : f < 20) : f_X7_side (nI a) (nI b) (nI c) (nI d) (nI e) (nI f) = some (sgI (gS a b c d e f)) := by
  have g := gS_bd ha hb hc hd he hf
  unfold f_X7_side sgI
  have e1 : (nI c - nI a) * (nI f - nI b) - (nI d - nI b) * (nI e - nI a) = iI (gS a b c d e f) := by
    unfold gS
    simp only [nI_iI, iI_sub, iI_mul]
  rw [e1]
  simp only [nm_, iI_le0 (show -2147483648 ≤ gS a b c d e f ∧ gS a b c d e f ≤ 2147483647 by omega), iI_0le (show -2147483648 ≤ gS a b c d e f ∧ gS a b c d e f ≤ 2147483647 by omega)]
  by_cases h1 : gS a b c d e f ≤ 0
  · rw [if_pos h1, if_pos h1]
    by_cases h2 : 0 ≤ gS a b c d e f
    · rw [if_pos h2, if_pos h2]
    · rw [if_neg h2, if_neg h2]
  · rw [if_neg h1, if_neg h1]
theorem sgI_0 (z : Int) : (sgI z = 0) = (z = 0) := by
  unfold sgI
  by_cases h1 : z ≤ 0
  · rw [if_pos h1]
    by_cases h2 : 0 ≤ z
    · rw [if_pos h2]; exact propext ⟨fun _ => by omega, fun _ => rfl⟩
    · rw [if_neg h2]; exact propext ⟨fun h => absurd h (by decide), fun h => by omega⟩
  · rw [if_neg h1]; exact propext ⟨fun h => absurd h (by decide), fun h => by omega⟩
theorem sgI_mul (x y : Int) : ((0 : Int32) ≤ sgI x * sgI y) = ¬ (x * y < 0) := by
  have p : ∀ z : Int, 0 < z → sgI z = 1 := fun z h => by unfold sgI; rw [if_neg (by omega)]
  have q : ∀ z : Int, z < 0 → sgI z = -1 := fun z h => by unfold sgI; rw [if_pos (by omega), if_neg (by omega)]
  have o : sgI 0 = 0 := rfl
  rcases Int.lt_trichotomy x 0 with a | a | a
  · rcases Int.lt_trichotomy y 0 with b | b | b
    · rw [q x a, q y b]; have := Int.mul_pos_of_neg_of_neg a b
      exact propext ⟨fun _ => by omega, fun _ => by decide⟩
    · subst b; rw [o, q x a]; exact propext ⟨fun _ => by simp, fun _ => by decide⟩
    · rw [q x a, p y b]; have := Int.mul_neg_of_neg_of_pos a b
      exact propext ⟨fun h => absurd h (by decide), fun h => absurd this h⟩
  · subst a; rw [o]; exact propext ⟨fun _ => by simp, fun _ => by simp⟩
  · rcases Int.lt_trichotomy y 0 with b | b | b
    · rw [p x a, q y b]; have := Int.mul_neg_of_pos_of_neg a b
      exact propext ⟨fun h => absurd h (by decide), fun h => absurd this h⟩
    · subst b; rw [o, p x a]; exact propext ⟨fun _ => by simp, fun _ => by decide⟩
    · rw [p x a, p y b]; have := Int.mul_pos a b
      exact propext ⟨fun _ => by omega, fun _ => by decide⟩
theorem kz_b1i (p : Prop) [Decidable p] : ((if p then (1 : Int32) else 0) &&& 1 = (if p then (1 : Int32) else 0)) = True := by by_cases h : p <;> simp [h]
theorem m_btw {a b v : Nat} (ha : a < 20) (hb : b < 20) (hv : v < 20) [Decidable (gB a b v)] : f_X7_isBetween (nI a) (nI b) (nI v) = some (if gB a b v then 1 else 0) := by
  unfold f_X7_isBetween
  simp only [m_in, Option.bind_some, kz_b1i, if_true]
  simp (disch := omega) only [kz_le]
  by_cases h : b ≤ a
  · rw [if_pos h]
    by_cases z : b ≤ v ∧ v ≤ a
    · rw [if_pos z, if_pos (by unfold gB; omega)]
    · rw [if_neg z, if_neg (by unfold gB; omega)]
  · rw [if_neg h]
    by_cases z : a ≤ v ∧ v ≤ b
    · rw [if_pos z, if_pos (by unfold gB; omega)]
    · rw [if_neg z, if_neg (by unfold gB; omega)]
theorem m_isOn {a b c d e f : Nat} (ha : a < 20) (hb : b < 20) (hc : c < 20) (hd : d < 20) (he : e < 20) (hf : f < 20) [Decidable (gOn a b c d e f)] : f_X7_isOn (nI a) (nI b) (nI c) (nI d) (nI e) (nI f) = some (if gOn a b c d e f then 1 else 0) := by
  classical
  unfold f_X7_isOn
  rw [m_side ha hb hc hd he hf, m_btw ha hc he, m_btw hb hd hf]
  simp only [Option.bind_some, sgI_0, kz_b01i]
  by_cases h1 : gS a b c d e f = 0
  · rw [if_pos h1]
    by_cases h2 : gB a c e
    · rw [if_neg (fun z => z h2)]
      by_cases h3 : gB b d f
      · rw [if_neg (fun z => z h3), if_pos ⟨h1, h2, h3⟩]
      · rw [if_pos h3, if_neg (fun z => h3 z.2.2)]
    · rw [if_pos h2, if_neg (fun z => h2 z.2.1)]
  · rw [if_neg h1, if_neg (fun z => h1 z.1)]
theorem m_205 {a b c d e f g h : Nat} (ha : a < 20) (hb : b < 20) (hc : c < 20) (hd : d < 20) (he : e < 20) (hf : f < 20) (hg : g < 20) (hh : h < 20) (q : Prop) [Decidable q] [Decidable (q ∨ (gS e f g h a b * gS e f g h c d < 0 ∧ gS a b c d e f * gS a b c d g h < 0))] : bk_X7_meets_205 (nI a) (nI b) (nI c) (nI d) (nI e) (nI f) (nI g) (nI h) (if q then 1 else 0) = some (if q ∨ (gS e f g h a b * gS e f g h c d < 0 ∧ gS a b c d e f * gS a b c d g h < 0) then 1 else 0) := by
  unfold bk_X7_meets_205 bk_X7_meets_246 bk_X7_meets_287
  rw [m_side he hf hg hh ha hb, m_side he hf hg hh hc hd, m_side ha hb hc hd he hf, m_side ha hb hc hd hg hh]
  simp only [Option.bind_some, sgI_mul, kz_b01i]
  by_cases z : q
  · simp [z]
  · by_cases z1 : gS e f g h a b * gS e f g h c d < 0
    · by_cases z2 : gS a b c d e f * gS a b c d g h < 0
      · simp [z, z1, z2]
      · simp [z, z1, z2]
    · simp [z, z1]
theorem m_meets {P : Nat → Nat} {plan : Nat → Int32} (h : plI P plan) {s p w : Nat} (hs : s < P 11) (hp : p < P 12) (hw : w < P 13) : f_X7_meets plan (nI s) (nI p) (nI w) = some (if mtB P s p w then 1 else 0) := by
  obtain ⟨h0, h8, h6, h5⟩ := h
  have b1 := h0 (14 + 4 * s) (by omega)
  have b2 := h0 (15 + 4 * s) (by omega)
  have b3 := h0 (46 + 2 * p) (by omega)
  have b4 := h0 (47 + 2 * p) (by omega)
  have b5 := h0 (58 + 4 * w) (by omega)
  have b6 := h0 (59 + 4 * w) (by omega)
  have b7 := h0 (60 + 4 * w) (by omega)
  have b8 := h0 (61 + 4 * w) (by omega)
  have l1 := b1.2
  have l2 := b2.2
  have l3 := b3.2
  have l4 := b4.2
  have l5 := b5.2
  have l6 := b6.2
  have l7 := b7.2
  have l8 := b8.2
  have hm : mtB P s p w = true ↔ _ := (mtB_iff P s p w).trans (g_meets _ _ _ _ _ _ _ _)
  classical
  unfold f_X7_meets nm_
  simp only [show (14 : Int32) = nI 14 from rfl, show (15 : Int32) = nI 15 from rfl, show (46 : Int32) = nI 46 from rfl, show (47 : Int32) = nI 47 from rfl, show (58 : Int32) = nI 58 from rfl, show (59 : Int32) = nI 59 from rfl, show (60 : Int32) = nI 60 from rfl, show (61 : Int32) = nI 61 from rfl, show (4 : Int32) = nI 4 from rfl, show (2 : Int32) = nI 2 from rfl, pk_mul, nI_add]
  rw [kz_ix (by omega) (by omega), kz_ix (by omega) (by omega), kz_ix (by omega) (by omega), kz_ix (by omega) (by omega), kz_ix (by omega) (by omega), kz_ix (by omega) (by omega), kz_ix (by omega) (by omega), kz_ix (by omega) (by omega)]
  rw [kz_cl (show 14 + 4 * s < 2 ^ 31 by omega), kz_cl (show 15 + 4 * s < 2 ^ 31 by omega), kz_cl (show 46 + 2 * p < 2 ^ 31 by omega), kz_cl (show 47 + 2 * p < 2 ^ 31 by omega), kz_cl (show 58 + 4 * w < 2 ^ 31 by omega), kz_cl (show 59 + 4 * w < 2 ^ 31 by omega), kz_cl (show 60 + 4 * w < 2 ^ 31 by omega), kz_cl (show 61 + 4 * w < 2 ^ 31 by omega), b1.1, b2.1, b3.1, b4.1, b5.1, b6.1, b7.1, b8.1]
  simp only [pk_mul, nI_1]
  generalize e1 : 2 * P (14 + 4 * s) + 1 = ax at *
  generalize e2 : 2 * P (15 + 4 * s) + 1 = ay at *
  generalize e3 : 2 * P (46 + 2 * p) + 1 = bx at *
  generalize e4 : 2 * P (47 + 2 * p) + 1 = by' at *
  generalize e5 : 2 * P (58 + 4 * w) = cx at *
  generalize e6 : 2 * P (59 + 4 * w) = cy at *
  generalize e7 : 2 * P (60 + 4 * w) = dx at *
  generalize e8 : 2 * P (61 + 4 * w) = dy at *
  have o0 := m_205 (a := ax) (b := ay) (c := bx) (d := by') (e := cx) (f := cy) (g := dx) (h := dy) (by omega) (by omega) (by omega) (by omega) (by omega) (by omega) (by omega) (by omega) False
  have o1 := m_205 (a := ax) (b := ay) (c := bx) (d := by') (e := cx) (f := cy) (g := dx) (h := dy) (by omega) (by omega) (by omega) (by omega) (by omega) (by omega) (by omega) (by omega) True
  rw [if_neg (fun z => z)] at o0
  rw [if_pos trivial] at o1
  rw [m_isOn (by omega) (by omega) (by omega) (by omega) (by omega) (by omega), m_isOn (by omega) (by omega) (by omega) (by omega) (by omega) (by omega), m_isOn (by omega) (by omega) (by omega) (by omega) (by omega) (by omega), m_isOn (by omega) (by omega) (by omega) (by omega) (by omega) (by omega)]
  unfold bk_X7_meets_200
  simp only [Option.bind_some, kz_b01i, o0, o1]
  by_cases c1 : gOn cx cy dx dy ax ay
  · rw [if_neg (fun z => z c1), if_pos (Or.inl trivial), if_pos (hm.mpr (Or.inl (Or.inl c1)))]
  · rw [if_pos c1]
    by_cases c2 : gOn cx cy dx dy bx by'
    · rw [if_neg (fun z => z c2), if_pos (Or.inl trivial), if_pos (hm.mpr (Or.inl (Or.inr (Or.inl c2))))]
    · rw [if_pos c2]
      by_cases c3 : gOn ax ay bx by' cx cy
      · rw [if_neg (fun z => z c3), if_pos (Or.inl trivial), if_pos (hm.mpr (Or.inl (Or.inr (Or.inr (Or.inl c3)))))]
      · rw [if_pos c3]
        by_cases c4 : gOn ax ay bx by' dx dy
        · rw [if_neg (fun z => z c4), if_pos (Or.inl trivial), if_pos (hm.mpr (Or.inl (Or.inr (Or.inr (Or.inr c4)))))]
        · rw [if_pos c4]
          by_cases c5 : gS cx cy dx dy ax ay * gS cx cy dx dy bx by' < 0 ∧ gS ax ay bx by' cx cy * gS ax ay bx by' dx dy < 0
          · rw [if_pos (Or.inr c5), if_pos (hm.mpr (Or.inr c5))]
          · rw [if_neg (fun z => c5 (z.resolve_left id)), if_neg (fun z => by
              rcases hm.mp z with (y | y | y | y) | y
              · exact c1 y
              · exact c2 y
              · exact c3 y
              · exact c4 y
              · exact c5 y)]
