/-! THE REFERENCE READS THE WHOLE PLAN -/
section MP
variable {T : Nat → Int32} {c : Nat → Nat} {n : Nat}
theorem fit_b {k : Nat} : fitS c (12 + 5 * k) = decide (cnP c (c (12 + 5 * k)) k < moP (c (12 + 5 * k))) := by
  unfold fitS
  rw [if_neg (by omega), if_pos (by omega), if_pos (by omega), show (12 + 5 * k - 12) / 5 = k by omega]
theorem pt_0 {rd rp : Nat → Int32} {a b x : Int32} : bk_X7_readPart_67 a b T rd rp x = some (0, b, rd, rp) := by
  unfold bk_X7_readPart_67 bk_X7_readPart_68
  rw [if_pos rfl]
theorem pt_1 {rd rp : Nat → Int32} {a x : Int32} {i : Nat} : bk_X7_readPart_63 a (nI i) T rd rp x = if x = 115 then (f_X7_readSpot a (nI (i + 1)) T rd).bind (fun z => un3 z (fun r u v => if r &&& 1 = r then some (r, u, v, rp) else none)) else if x = 102 then (f_X7_readPoint a (nI (i + 1)) T rd rp).bind (fun z => un4 z (fun r u v w => if r &&& 1 = r then some (r, u, v, w) else none)) else (f_X7_readWall a (nI (i + 1)) T rd).bind (fun z => un3 z (fun r u v => if r &&& 1 = r then some (r, u, v, rp) else none)) := by
  unfold bk_X7_readPart_63 bk_X7_readPart_68
  rw [if_neg (by decide), nI_1]
  rfl
theorem pt_w {rd rp : Nat → Int32} {a : Int32} {i x : Nat} (hx : x < 256) : bk_X7_readPart_46 a (nI i) T rd rp (nI x) = if x = 119 then (if 5 ≤ rd 13 then some (0, nI i, rd, rp) else bk_X7_readPart_63 a (nI i) T rd rp (nI x)) else some (0, nI i, rd, rp) := by
  unfold bk_X7_readPart_46
  rw [pt_0, show (119 : Int32) = nI 119 from rfl]
  simp (disch := omega) only [kz_eq]
  rfl
theorem pt_f {rd rp : Nat → Int32} {a : Int32} {i x : Nat} (hx : x < 256) : bk_X7_readPart_28 a (nI i) T rd rp (nI x) = if x = 102 then (if rd 12 < 6 then bk_X7_readPart_63 a (nI i) T rd rp (nI x) else bk_X7_readPart_46 a (nI i) T rd rp (nI x)) else bk_X7_readPart_46 a (nI i) T rd rp (nI x) := by
  unfold bk_X7_readPart_28
  rw [show (102 : Int32) = nI 102 from rfl]
  simp (disch := omega) only [kz_eq]
  rfl
theorem pt_s (h : holdT T c n) {rd rp : Nat → Int32} {a : Int32} {i : Nat} (hi : i < n) : f_X7_readPart a (nI i) T rd rp = if c i = 115 then (if rd 11 < 8 then bk_X7_readPart_63 a (nI i) T rd rp (nI (c i)) else bk_X7_readPart_28 a (nI i) T rd rp (nI (c i))) else bk_X7_readPart_28 a (nI i) T rd rp (nI (c i)) := by
  have hn := h.1
  have hx := (h.2 i hi).2
  unfold f_X7_readPart
  rw [kz_ix (by omega) (by omega), kz_cl (by omega), (h.2 i hi).1, show (115 : Int32) = nI 115 from rfl]
  simp (disch := omega) only [nm_, kz_eq]
  rfl
theorem m_part_bad (h : holdT T c n) {k : Nat} {rd rp : Nat → Int32} (hk : 12 + 5 * k < n) (hI : rdI c k rd rp) (hb : fitS c (12 + 5 * k) = false) : f_X7_readPart (nI n) (nI (12 + 5 * k)) T rd rp = some (0, nI (12 + 5 * k), rd, rp) := by
  have hx2 := (h.2 _ hk).2
  obtain ⟨i1, i2, ⟨i3a, i3b, i3c⟩, i4, i5, i6, i7, ⟨i8a, i8b, i8c⟩, i9⟩ := hI
  rw [fit_b] at hb
  have hb := of_decide_eq_false hb
  unfold moP at hb
  rw [pt_s h hk, pt_f hx2, pt_w hx2, i3a, i3b, i3c, show (8 : Int32) = nI 8 from rfl, show (6 : Int32) = nI 6 from rfl, show (5 : Int32) = nI 5 from rfl]
  simp (disch := omega) only [kz_lt, kz_le]
  by_cases x1 : c (12 + 5 * k) = 115
  · rw [x1] at hb ⊢
    rw [if_pos rfl] at hb
    simp (disch := omega) only [if_pos, if_neg, if_true, if_false, ite_self]
  · by_cases x2 : c (12 + 5 * k) = 102
    · rw [x2] at hb ⊢
      rw [if_neg (by omega), if_pos rfl] at hb
      simp (disch := omega) only [if_pos, if_neg, if_true, if_false, ite_self]
    · by_cases x3 : c (12 + 5 * k) = 119
      · rw [x3] at hb ⊢
        rw [if_neg (by omega), if_neg (by omega), if_pos rfl] at hb
        simp (disch := omega) only [if_pos, if_neg, if_true, if_false, ite_self]
      · simp (disch := omega) only [if_pos, if_neg, if_true, if_false, ite_self]
theorem m_part (h : holdT T c n) {k : Nat} {rd rp : Nat → Int32} (hk : 12 + 5 * k < n) (hI : rdI c k rd rp) (hb : fitS c (12 + 5 * k) = true) : f_X7_readPart (nI n) (nI (12 + 5 * k)) T rd rp = if c (12 + 5 * k) = 115 then (f_X7_readSpot (nI n) (nI (13 + 5 * k)) T rd).bind (fun z => un3 z (fun r u v => if r &&& 1 = r then some (r, u, v, rp) else none)) else if c (12 + 5 * k) = 102 then (f_X7_readPoint (nI n) (nI (13 + 5 * k)) T rd rp).bind (fun z => un4 z (fun r u v w => if r &&& 1 = r then some (r, u, v, w) else none)) else (f_X7_readWall (nI n) (nI (13 + 5 * k)) T rd).bind (fun z => un3 z (fun r u v => if r &&& 1 = r then some (r, u, v, rp) else none)) := by
  have hx2 := (h.2 _ hk).2
  obtain ⟨i1, i2, ⟨i3a, i3b, i3c⟩, i4, i5, i6, i7, ⟨i8a, i8b, i8c⟩, i9⟩ := hI
  rw [fit_b] at hb
  have hb := of_decide_eq_true hb
  unfold moP at hb
  rw [pt_s h hk, pt_f hx2, pt_w hx2, i3a, i3b, i3c, show (8 : Int32) = nI 8 from rfl, show (6 : Int32) = nI 6 from rfl, show (5 : Int32) = nI 5 from rfl]
  by_cases x1 : c (12 + 5 * k) = 115
  · rw [x1] at hb ⊢
    rw [if_pos rfl] at hb
    rw [if_pos rfl, if_pos rfl, if_pos (nI_lt hb (by omega)), pt_1, if_pos (show nI 115 = (115 : Int32) from rfl), show 12 + 5 * k + 1 = 13 + 5 * k by omega]
  · by_cases x2 : c (12 + 5 * k) = 102
    · rw [x2] at hb ⊢
      rw [if_neg (by omega), if_pos rfl] at hb
      rw [if_neg (show ¬ 102 = 115 by omega), if_neg (show ¬ 102 = 115 by omega), if_pos rfl, if_pos rfl, if_pos (nI_lt hb (by omega)), pt_1, if_neg (show ¬ nI 102 = (115 : Int32) by decide), if_pos (show nI 102 = (102 : Int32) from rfl), show 12 + 5 * k + 1 = 13 + 5 * k by omega]
    · by_cases x3 : c (12 + 5 * k) = 119
      · rw [x3] at hb ⊢
        rw [if_neg (by omega), if_neg (by omega), if_pos rfl] at hb
        rw [if_neg (show ¬ 119 = 115 by omega), if_neg (show ¬ 119 = 102 by omega), if_pos rfl, if_neg (nI_ge hb (by omega)), if_neg (show ¬ 119 = 115 by omega), if_neg (show ¬ 119 = 102 by omega), pt_1, if_neg (show ¬ nI 119 = (115 : Int32) by decide), if_neg (show ¬ nI 119 = (102 : Int32) by decide), show 12 + 5 * k + 1 = 13 + 5 * k by omega]
      · rw [if_neg x1, if_neg x2, if_neg x3] at hb
        omega
theorem moP_cases {x k : Nat} (h : cnP c x k < moP x) : (x = 115 ∧ cnP c 115 k < 8) ∨ (x = 102 ∧ cnP c 102 k < 6) ∨ (x = 119 ∧ cnP c 119 k < 5) := by
  unfold moP at h
  by_cases x1 : x = 115
  · subst x1; rw [if_pos rfl] at h; exact Or.inl ⟨rfl, h⟩
  · by_cases x2 : x = 102
    · subst x2; rw [if_neg (by omega), if_pos rfl] at h; exact Or.inr (Or.inl ⟨rfl, h⟩)
    · by_cases x3 : x = 119
      · subst x3; rw [if_neg (by omega), if_neg (by omega), if_pos rfl] at h; exact Or.inr (Or.inr ⟨rfl, h⟩)
      · rw [if_neg x1, if_neg x2, if_neg x3] at h; omega
theorem m_part_y (h : holdT T c n) {k : Nat} {rd rp : Nat → Int32} (hk : 12 + 5 * k < n) (hI : rdI c k rd rp) (hb : fitS c (12 + 5 * k) = true) (hg : ∀ r, r < 4 → gP c n k r) : ∃ rd' rp', f_X7_readPart (nI n) (nI (12 + 5 * k)) T rd rp = some (1, nI (12 + 5 * (k + 1)), rd', rp') ∧ rdI c (k + 1) rd' rp' := by
  rw [m_part h hk hI hb]
  rw [fit_b] at hb
  have hb := moP_cases (of_decide_eq_true hb)
  have i3 := hI.2.2.1
  rw [show 12 + 5 * (k + 1) = 13 + 5 * k + 4 by omega]
  rcases hb with ⟨x1, hc⟩ | ⟨x1, hc⟩ | ⟨x1, hc⟩
  · have g : ∀ r, r < 4 → gdR c n (13 + 5 * k + r) (if r < 2 then 0 else 1) (if r < 2 then 5 else 9) := fun r hr => ⟨(hg r hr).1, by rw [← fit_s hr x1]; exact (hg r hr).2⟩
    rw [if_pos x1, m_readSpot_y h hc i3.1 (fun j hj => by have := g j (by omega); rw [if_pos hj, if_pos hj] at this; exact this) (fun j hj => by have := g (2 + j) (by omega); rw [if_neg (by omega), if_neg (by omega)] at this; rw [Nat.add_assoc]; exact this)]
    simp only [Option.bind_some, un3]
    rw [if_pos (by decide)]
    refine ⟨_, _, rfl, rd_s hI x1 hc (fun j hj => ?_) ?_ (fun j hj => ?_) (fun i h1 h2 => ?_)⟩
    · have := gdR_rng (g j hj)
      split at this <;> omega
    · exact pk_us
    · rw [pk_un (by omega)]
      by_cases hj2 : j < 2
      · rw [fb_put_out (by omega), fb_put_in (by omega) (by omega), show 14 + 4 * cnP c 115 k + j - (14 + 4 * cnP c 115 k) = j by omega]
      · rw [fb_put_in (by omega) (by omega), show 13 + 5 * k + 2 + (14 + 4 * cnP c 115 k + j - (14 + 4 * cnP c 115 k + 2)) = 13 + 5 * k + j by omega]
    · rw [pk_un h1, fb_put_out (by omega), fb_put_out (by omega)]
  · have g : ∀ r, r < 4 → gdR c n (13 + 5 * k + r) 0 (if r < 2 then 5 else 9) := fun r hr => ⟨(hg r hr).1, by rw [← fit_f hr x1]; exact (hg r hr).2⟩
    rw [if_neg (by omega), if_pos x1, m_readPoint_y h hc i3.2.1 (fun j hj => by have := g j (by omega); rw [if_pos hj] at this; exact this) (fun j hj => by have := g (2 + j) (by omega); rw [if_neg (by omega)] at this; rw [Nat.add_assoc]; exact this)]
    simp only [Option.bind_some, un4]
    rw [if_pos (by decide)]
    refine ⟨_, _, rfl, rd_f hI x1 hc (fun j hj => ?_) ?_ (fun j hj => ?_) (fun i h1 h2 => ?_) ?_ (fun i hi => ?_)⟩
    · have := gdR_rng (g j hj)
      split at this <;> omega
    · exact pk_us
    · rw [pk_un (by omega), fb_put_in (by omega) (by omega), show 46 + 2 * cnP c 102 k + j - (46 + 2 * cnP c 102 k) = j by omega]
    · rw [pk_un h1, fb_put_out (by omega)]
    · rw [pk_us, show 13 + 5 * k + 2 = 15 + 5 * k by omega, show 13 + 5 * k + 3 = 16 + 5 * k by omega]
    · exact pk_un hi
  · have g : ∀ r, r < 4 → gdR c n (13 + 5 * k + r) 0 6 := fun r hr => ⟨(hg r hr).1, by
      have := (hg r hr).2
      rw [fit_w hr x1, Bool.and_eq_true] at this
      exact this.1⟩
    have hs : ¬ (c (13 + 5 * k) = c (13 + 5 * k + 2) ∧ c (13 + 5 * k + 1) = c (13 + 5 * k + 3)) := by
      have := (hg 3 (by omega)).2
      rw [fit_w (by omega) x1, Bool.and_eq_true] at this
      intro ⟨e1, e2⟩
      have h2 := this.2
      rw [show 13 + 5 * k + 2 = 15 + 5 * k by omega] at e1
      rw [show 13 + 5 * k + 1 = 14 + 5 * k by omega, show 13 + 5 * k + 3 = 16 + 5 * k by omega] at e2
      simp [e1, e2] at h2
    rw [if_neg (by omega), if_neg (by omega), m_readWall_y h hc i3.2.2 g hs]
    simp only [Option.bind_some, un3]
    rw [if_pos (by decide)]
    refine ⟨_, _, rfl, rd_w hI x1 hc (fun j hj => ?_) ?_ (fun j hj => ?_) (fun i h1 h2 => ?_)⟩
    · have := gdR_rng (g j hj)
      omega
    · exact pk_us
    · rw [pk_un (by omega)]
      by_cases hj2 : j < 3
      · rw [fb_put_out (by omega), fb_put_in (by omega) (by omega), show 58 + 4 * cnP c 119 k + j - (58 + 4 * cnP c 119 k) = j by omega]
      · rw [fb_put_in (by omega) (by omega), show 13 + 5 * k + 3 + (58 + 4 * cnP c 119 k + j - (58 + 4 * cnP c 119 k + 3)) = 13 + 5 * k + j by omega]
    · rw [pk_un h1, fb_put_out (by omega), fb_put_out (by omega)]
theorem m_part_n (h : holdT T c n) {k r : Nat} {rd rp : Nat → Int32} (hk : 12 + 5 * k < n) (hI : rdI c k rd rp) (hb : fitS c (12 + 5 * k) = true) (hr : r < 4) (hq : 13 + 5 * k + r ≤ n) (hg : ∀ j, j < r → gP c n k j) (hbad : ¬ gP c n k r) : ∃ rd' rp', f_X7_readPart (nI n) (nI (12 + 5 * k)) T rd rp = some (0, nI (13 + 5 * k + r), rd', rp') := by
  rw [m_part h hk hI hb]
  rw [fit_b] at hb
  have hb := moP_cases (of_decide_eq_true hb)
  have i3 := hI.2.2.1
  rcases hb with ⟨x1, hc⟩ | ⟨x1, hc⟩ | ⟨x1, hc⟩
  · have g : ∀ j, j < 4 → (gP c n k j ↔ gdR c n (13 + 5 * k + j) (if j < 2 then 0 else 1) (if j < 2 then 5 else 9)) := fun j hj => by unfold gP gdR; rw [fit_s hj x1]
    obtain ⟨rd', e⟩ := m_readSpot_n h hc i3.1 hr hq (fun j hj => (g j (by omega)).mp (hg j hj)) (fun z => hbad ((g r hr).mpr z))
    rw [if_pos x1, e]
    simp only [Option.bind_some, un3]
    rw [if_pos (by decide)]
    exact ⟨_, _, rfl⟩
  · have g : ∀ j, j < 4 → (gP c n k j ↔ gdR c n (13 + 5 * k + j) 0 (if j < 2 then 5 else 9)) := fun j hj => by unfold gP gdR; rw [fit_f hj x1]
    obtain ⟨rd', rp', e⟩ := m_readPoint_n (rp := rp) h hc i3.2.1 hr hq (fun j hj => (g j (by omega)).mp (hg j hj)) (fun z => hbad ((g r hr).mpr z))
    rw [if_neg (by omega), if_pos x1, e]
    simp only [Option.bind_some, un4]
    rw [if_pos (by decide)]
    exact ⟨_, _, rfl⟩
  · have g : ∀ j, j < r → gdR c n (13 + 5 * k + j) 0 6 := fun j hj => ⟨(hg j hj).1, by
      have := (hg j hj).2
      rw [fit_w (by omega) x1, Bool.and_eq_true] at this
      exact this.1⟩
    obtain ⟨rd', e⟩ := m_readWall_n h hc i3.2.2 hr hq g (by
      by_cases hz : gdR c n (13 + 5 * k + r) 0 6
      · right
        have h3 : ¬ fitS c (13 + 5 * k + r) = true := fun z => hbad ⟨hz.1, z⟩
        rw [fit_w hr x1, hz.2] at h3
        simp at h3
        obtain ⟨e0, e1, e2⟩ := h3
        exact ⟨e0, by rw [show 13 + 5 * k + 2 = 15 + 5 * k by omega]; exact e2.symm, by rw [show 13 + 5 * k + 1 = 14 + 5 * k by omega, show 13 + 5 * k + 3 = 16 + 5 * k by omega]; exact e1.symm⟩
      · exact Or.inl hz)
    rw [if_neg (by omega), if_neg (by omega), e]
    simp only [Option.bind_some, un3]
    rw [if_pos (by decide)]
    exact ⟨_, _, rfl⟩
/-- the first fault, by its place -/
theorem fFF_at {q : Nat} (h1 : ∀ i, i < q → fitS c i = true) (h2 : q ≤ n) (h3 : q < n → fitS c q = false) (h4 : q = n → ¬ (12 ≤ n ∧ (n - 12) % 5 = 0)) : fFF c n = nI q := by
  have hle := fa_first_le (fun i => !fitS c i) n
  have e : fa_first (fun i => !fitS c i) n = q := by
    rcases Nat.lt_or_ge (fa_first (fun i => !fitS c i) n) q with z | z
    · have z2 := fa_first_yes (fun i => !fitS c i) n (by omega)
      have := h1 _ z
      simp [this] at z2
    · rcases Nat.lt_or_ge q (fa_first (fun i => !fitS c i) n) with y | y
      · have y2 := fa_first_no (fun i => !fitS c i) n q y
        have := h3 (by omega)
        simp [this] at y2
      · omega
  unfold fFF
  rw [e]
  by_cases q1 : q < n
  · rw [if_pos q1]
  · have : q = n := by omega
    rw [if_neg q1, if_neg (h4 this), this]
theorem fFF_none (h1 : ∀ i, i < n → fitS c i = true) (h2 : 12 ≤ n ∧ (n - 12) % 5 = 0) : fFF c n = -9 := by
  have hle := fa_first_le (fun i => !fitS c i) n
  unfold fFF
  rw [if_neg, if_pos h2]
  intro z
  have z2 := fa_first_yes (fun i => !fitS c i) n z
  have := h1 _ z
  simp [this] at z2
/-- the first that is wrong, out of four -/
theorem four (p : Nat → Prop) : (∀ r, r < 4 → p r) ∨ ∃ r, r < 4 ∧ (∀ j, j < r → p j) ∧ ¬ p r := by
  by_cases h0 : p 0
  · by_cases h1 : p 1
    · by_cases h2 : p 2
      · by_cases h3 : p 3
        · left
          intro r hr
          match r, hr with
          | 0, _ => exact h0
          | 1, _ => exact h1
          | 2, _ => exact h2
          | 3, _ => exact h3
        · exact Or.inr ⟨3, by omega, fun j hj => by match j, hj with | 0, _ => exact h0 | 1, _ => exact h1 | 2, _ => exact h2, h3⟩
      · exact Or.inr ⟨2, by omega, fun j hj => by match j, hj with | 0, _ => exact h0 | 1, _ => exact h1, h2⟩
    · exact Or.inr ⟨1, by omega, fun j hj => by match j, hj with | 0, _ => exact h0, h1⟩
  · exact Or.inr ⟨0, by omega, fun j hj => absurd hj (by omega), h0⟩
theorem m_parts (h : holdT T c n) : ∀ (n2 k : Nat) (rd rp : Nat → Int32), 12 + 5 * k ≤ n → (∀ i, i < 12 + 5 * k → fitS c i = true) → rdI c k rd rp → 100 - k < n2 → ∃ pl rd' rp', lp_X7_readPlan_90 (nI n) T n2 (nI (12 + 5 * k)) rd rp = some (fFF c n, pl, rd', rp') ∧ (fFF c n = -9 → rdI c ((n - 12) / 5) rd' rp' ∧ 12 ≤ n ∧ (n - 12) % 5 = 0 ∧ ∀ i, i < n → fitS c i = true) := by
  have hn := h.1
  intro n2
  induction n2 with
  | zero => intro k rd rp _ _ _ hf; omega
  | succ n2 ih =>
    intro k rd rp hk hfit hI hf
    rw [le_X7_readPlan_90]
    unfold bk_X7_readPlan_90
    by_cases e : n = 12 + 5 * k
    · rw [if_pos (nI_le (by omega) (by omega)), fFF_none (fun i hi => hfit i (by omega)) (by omega)]
      refine ⟨_, _, _, rfl, fun _ => ⟨?_, by omega, by omega, fun i hi => hfit i (by omega)⟩⟩
      rw [show (n - 12) / 5 = k by omega]; exact hI
    · rw [if_neg (nI_ge (by omega) (by omega))]
      have fin : ∀ q : Nat, q ≤ 99 → fFF c n = nI q → ∀ (rd' rp' : Nat → Int32), ∃ pl rd2 rp2, (some (nI q, nI q, rd', rp') : Option (Int32 × Int32 × (Nat → Int32) × (Nat → Int32))) = some (fFF c n, pl, rd2, rp2) ∧ (fFF c n = -9 → rdI c ((n - 12) / 5) rd2 rp2 ∧ 12 ≤ n ∧ (n - 12) % 5 = 0 ∧ ∀ i, i < n → fitS c i = true) := by
        intro q hq hF rd' rp'
        rw [hF]
        exact ⟨_, _, _, rfl, fun z => absurd z (by rw [kz_m9 (by omega)]; exact id)⟩
      cases hb : fitS c (12 + 5 * k) with
      | false =>
        rw [m_part_bad h (by omega) hI hb]
        simp only [Option.bind_some, un4, if_true]
        exact fin _ (by omega) (fFF_at hfit (by omega) (fun _ => hb) (fun z => by omega)) _ _
      | true =>
        rcases four (gP c n k) with hg | ⟨r, hr, hg, hbad⟩
        · obtain ⟨rd', rp', e1, hI'⟩ := m_part_y h (by omega) hI hb hg
          rw [e1]
          simp only [Option.bind_some, un4, if_neg (show ¬ (1 : Int32) = 0 by decide)]
          refine ih (k + 1) rd' rp' ?_ ?_ hI' (by omega)
          · have := (hg 3 (by omega)).1; omega
          · intro i hi
            rcases Nat.lt_or_ge i (12 + 5 * k) with z | z
            · exact hfit i z
            · rcases Nat.lt_or_ge i (13 + 5 * k) with z2 | z2
              · rw [show i = 12 + 5 * k by omega]; exact hb
              · have := (hg (i - (13 + 5 * k)) (by omega)).2
                rw [show 13 + 5 * k + (i - (13 + 5 * k)) = i by omega] at this
                exact this
        · have hq : 13 + 5 * k + r ≤ n := by
            rcases Nat.lt_or_ge 0 r with z | z
            · have := (hg (r - 1) (by omega)).1; omega
            · omega
          obtain ⟨rd', rp', e1⟩ := m_part_n h (by omega) hI hb hr hq hg hbad
          rw [e1]
          simp only [Option.bind_some, un4, if_true]
          refine fin _ (by omega) (fFF_at (fun i hi => ?_) hq (fun z => ?_) (fun z => by omega)) _ _
          · rcases Nat.lt_or_ge i (12 + 5 * k) with z | z
            · exact hfit i z
            · rcases Nat.lt_or_ge i (13 + 5 * k) with z2 | z2
              · rw [show i = 12 + 5 * k by omega]; exact hb
              · have := (hg (i - (13 + 5 * k)) (by omega)).2
                rw [show 13 + 5 * k + (i - (13 + 5 * k)) = i by omega] at this
                exact this
          · cases z3 : fitS c (13 + 5 * k + r) with
            | false => rfl
            | true => exact absurd ⟨z, z3⟩ hbad
end MP
section MQ2
variable {T : Nat → Int32} {c : Nat → Nat} {n : Nat}
theorem m_plan_47 (h : holdT T c n) (rd rp : Nat → Int32) (hz : ∀ i, i < 78 → rd i = 0) (hz2 : ∀ i, i < 9 → rp i = 0) : ∃ pl rd' rp', bk_X7_readPlan_47 (nI n) 0 T rd rp = some (fFF c n, pl, rd', rp') ∧ (fFF c n = -9 → rdI c ((n - 12) / 5) rd' rp' ∧ 12 ≤ n ∧ (n - 12) % 5 = 0 ∧ ∀ i, i < n → fitS c i = true) := by
  have hn := h.1
  have no : ∀ q : Nat, q ≤ 99 → fFF c n = nI q → ∀ (a : Int32) (rd' rp' : Nat → Int32), ∃ pl rd2 rp2, (some (nI q, a, rd', rp') : Option (Int32 × Int32 × (Nat → Int32) × (Nat → Int32))) = some (fFF c n, pl, rd2, rp2) ∧ (fFF c n = -9 → rdI c ((n - 12) / 5) rd2 rp2 ∧ 12 ≤ n ∧ (n - 12) % 5 = 0 ∧ ∀ i, i < n → fitS c i = true) := by
    intro q hq hF a rd' rp'
    rw [hF]
    exact ⟨_, _, _, rfl, fun z => absurd z (by rw [kz_m9 (by omega)]; exact id)⟩
  unfold bk_X7_readPlan_47
  by_cases e0 : n = 0
  · subst e0
    rw [if_pos (show nI 0 = (0 : Int32) from rfl)]
    exact no 0 (by omega) (fFF_at (fun i hi => absurd hi (by omega)) (by omega) (fun z => by omega) (fun _ => by omega)) _ _ _
  · rw [if_neg (nI_ne0 (by omega) (by omega))]
    have hc0 := h.2 0 (by omega)
    have hc2 := hc0.2
    rw [show Int32.toNatClampNeg 0 = 0 from rfl, hc0.1]
    by_cases e1 : c 0 = 76
    · rw [e1, if_pos (show nI 76 = (76 : Int32) from rfl)]
      have f0 : fitS c 0 = true := by unfold fitS; rw [if_pos rfl, e1]; rfl
      have fh : ∀ i, 1 ≤ i → i < 12 → fitS c i = inR c i 0 9 := fun i h1 h2 => by unfold fitS; rw [if_neg (by omega), if_neg (by omega)]
      by_cases hall : ∀ j, j < 11 → gdR c n (1 + j) 0 9
      · rw [show (1 : Int32) = nI 1 from rfl, show (0 : Int32) = nI 0 from rfl, show (11 : Int32) = nI 11 from rfl, show (9 : Int32) = nI 9 from rfl, m_readTo_y h (by omega) (by omega) (by omega) (by omega) hall]
        simp only [Option.bind_some, un3, if_neg (show ¬ (1 : Int32) = nI 0 by decide)]
        have := m_parts h 1000 0 (fb_put rd (fun j => nI (c (1 + j) - 48)) 0 11) rp (by have := (hall 10 (by omega)).1; omega) (fun i hi => ?_) ?_ (by omega)
        · exact this
        · rcases Nat.lt_or_ge 0 i with z | z
          · rw [fh i z (by omega)]
            have := (hall (i - 1) (by omega)).2
            rw [show 1 + (i - 1) = i by omega] at this
            exact this
          · rw [show i = 0 by omega]; exact f0
        · have c0 : ∀ x, cnP c x 0 = 0 := fun x => rfl
          refine ⟨fun i hi => ?_, fun i hi => ?_, ⟨?_, ?_, ?_⟩, fun k' hk => absurd hk (by omega), fun k' hk => absurd hk (by omega), fun k' hk => absurd hk (by omega), ⟨hz2 0 (by omega), hz2 1 (by omega), hz2 2 (by omega), fun i _ h2 => hz2 _ (by omega)⟩, ⟨by rw [c0]; omega, by rw [c0]; omega, by rw [c0]; omega⟩, fun i hi => ⟨0, by omega, hz2 i hi⟩⟩
          · by_cases hi2 : i < 11
            · rw [fb_put_in (by omega) (by omega)]
              have := gdR_rng (hall i hi2)
              exact ⟨_, by rw [Nat.sub_zero]; omega, rfl⟩
            · rw [fb_put_out (by omega), hz i hi]
              exact ⟨0, by omega, rfl⟩
          · rw [fb_put_in (by omega) (by omega), Nat.sub_zero]
          · rw [fb_put_out (by omega), hz 11 (by omega), c0]; rfl
          · rw [fb_put_out (by omega), hz 12 (by omega), c0]; rfl
          · rw [fb_put_out (by omega), hz 13 (by omega), c0]; rfl
      · have hx : ∃ j0, j0 < 11 ∧ (¬ gdR c n (1 + j0) 0 9) ∧ ∀ j, j < j0 → ¬ ¬ gdR c n (1 + j) 0 9 := by
          haveI : DecidablePred (fun j => ¬ gdR c n (1 + j) 0 9) := fun j => Classical.propDecidable _
          exact fb_first (p := fun j => ¬ gdR c n (1 + j) 0 9) (n := 11) (Classical.byContradiction fun z => hall fun j hj => Classical.byContradiction fun y => z ⟨j, hj, y⟩)
        obtain ⟨j0, hj0, hb, hg⟩ := hx
        have hg : ∀ j, j < j0 → gdR c n (1 + j) 0 9 := fun j hj => Classical.byContradiction (hg j hj)
        have hq : 1 + j0 ≤ n := by
          rcases Nat.lt_or_ge 0 j0 with z | z
          · have := (hg (j0 - 1) (by omega)).1; omega
          · omega
        obtain ⟨rd', e⟩ := m_readTo_n h (a := 0) (many := 11) (lo := 0) (hi := 9) (i := 1) (j0 := j0) (by omega) (by omega) (by omega) (by omega) hj0 hq hg hb rd
        rw [show (1 : Int32) = nI 1 from rfl, show (0 : Int32) = nI 0 from rfl, show (11 : Int32) = nI 11 from rfl, show (9 : Int32) = nI 9 from rfl, e]
        simp only [Option.bind_some, un3, if_pos (show (0 : Int32) = nI 0 from rfl)]
        refine no (1 + j0) (by omega) (fFF_at (fun i hi => ?_) hq (fun z => ?_) (fun z => by omega)) _ _ _
        · rcases Nat.lt_or_ge 0 i with z | z
          · rw [fh i z (by omega)]
            have := (hg (i - 1) (by omega)).2
            rw [show 1 + (i - 1) = i by omega] at this
            exact this
          · rw [show i = 0 by omega]; exact f0
        · rw [fh _ (by omega) (by omega)]
          cases z3 : inR c (1 + j0) 0 9 with
          | false => rfl
          | true => exact absurd ⟨z, z3⟩ hb
    · rw [if_neg (show ¬ nI (c 0) = (76 : Int32) from fun z => e1 ((nI_eq (a := c 0) (b := 76) (by omega) (by omega)).mp z))]
      refine no 0 (by omega) (fFF_at (fun i hi => absurd hi (by omega)) (by omega) (fun z => ?_) (fun z => by omega)) _ _ _
      unfold fitS
      rw [if_pos rfl]
      simp [e1]
theorem m_readPlan (h : holdT T c n) (pl0 : Int32) (rd rp : Nat → Int32) : ∃ pl rd' rp', f_X7_readPlan (nI n) pl0 T rd rp = some (fFF c n, pl, rd', rp') ∧ (fFF c n = -9 → rdI c ((n - 12) / 5) rd' rp' ∧ 12 ≤ n ∧ (n - 12) % 5 = 0 ∧ ∀ i, i < n → fitS c i = true) := by
  unfold f_X7_readPlan
  have k1 : ∀ rd1 : Nat → Int32, lp_X7_readPlan_28 (nI n) 0 T rd1 1000 rp 0 = bk_X7_readPlan_47 (nI n) 0 T rd1 (fb_put rp (fun _ => 0) 0 9) := by
    intro rd1
    have key := lp_up1 (fun n2 x k => lp_X7_readPlan_28 (nI n) 0 T rd1 n2 x k) (fun j => fb_put rp (fun _ => 0) 0 j) 9 (bk_X7_readPlan_47 (nI n) 0 T rd1 (fb_put rp (fun _ => 0) 0 9)) (fun n2 => ?_) (fun n2 j hj => ?_) 1000 0 (by omega) (by omega)
    · rw [fb_put_0] at key; exact key
    · rw [le_X7_readPlan_28]
      unfold bk_X7_readPlan_28
      rw [if_pos (show (9 : Int32) ≤ nI 9 by decide)]
    · rw [le_X7_readPlan_28]
      unfold bk_X7_readPlan_28
      have := fb_put_succ rp (fun _ => 0) 0 j
      rw [Nat.zero_add] at this
      rw [if_neg (show ¬ (9 : Int32) ≤ nI j from nI_ge (b := 9) hj (by omega)), kz_ix hj (by omega), kz_cl (by omega), this]
      simp only [nm_, nI_1]
  have key := lp_up1 (fun n2 x k => lp_X7_readPlan_7 (nI n) 0 T rp n2 x k) (fun j => fb_put rd (fun _ => 0) 0 j) 78 (lp_X7_readPlan_28 (nI n) 0 T (fb_put rd (fun _ => 0) 0 78) 1000 rp 0) (fun n2 => ?_) (fun n2 j hj => ?_) 1000 0 (by omega) (by omega)
  · rw [fb_put_0] at key
    rw [k1] at key
    have := m_plan_47 h (fb_put rd (fun _ => 0) 0 78) (fb_put rp (fun _ => 0) 0 9) (fun i hi => fb_put_in (by omega) (by omega)) (fun i hi => fb_put_in (by omega) (by omega))
    rw [← key] at this
    exact this
  · rw [le_X7_readPlan_7]
    unfold bk_X7_readPlan_7
    rw [if_pos (show (78 : Int32) ≤ nI 78 by decide)]
  · rw [le_X7_readPlan_7]
    unfold bk_X7_readPlan_7
    have := fb_put_succ rd (fun _ => 0) 0 j
    rw [Nat.zero_add] at this
    rw [if_neg (show ¬ (78 : Int32) ≤ nI j from nI_ge (b := 78) hj (by omega)), kz_ix hj (by omega), kz_cl (by omega), this]
    simp only [nm_, nI_1]
end MQ2
