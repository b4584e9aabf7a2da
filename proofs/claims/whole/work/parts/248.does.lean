/-! LAYOUTS, THEIR TURNS, AND THE DOINGS -/
/-- a layout that may be -/
def vaI (P : Nat → Nat) (hu de st : Nat) (wt : Nat → Nat) : Prop := hu < 2 ^ P 11 ∧ (∀ i, de.testBit i = true → hu.testBit i = true) ∧ de < 256 ∧ st < 2 ^ P 13 ∧ ∀ p, p < 6 → wt p ≤ 99
/-- a page of the reference that holds it -/
def pgI (hu de st : Nat) (wt : Nat → Nat) (pg : Nat → Int32) : Prop := pg 0 = nI hu ∧ pg 1 = nI de ∧ pg 2 = nI st ∧ ∀ p, p < 6 → pg (3 + p) = nI (wt p)
def wtI (wt : Nat → Nat) (W : Nat → Int32) : Prop := ∀ p, p < 6 → W p = nI (wt p)
theorem tb_or : ∀ a, a < 256 → ∀ s, s < 8 → a.testBit s = false → a ||| 2 ^ s = a ^^^ 2 ^ s := by decide +kernel
theorem tb_clr : ∀ a, a < 256 → ∀ s, s < 8 → a.testBit s = true → clr a s = a ^^^ 2 ^ s := by decide +kernel
theorem tb_id : ∀ a, a < 256 → ∀ s, s < 8 → a.testBit s = true → a ||| 2 ^ s = a := by decide +kernel
theorem tb_clr0 : ∀ a, a < 256 → ∀ s, s < 8 → a.testBit s = false → clr a s = a := by decide +kernel
theorem fa_xor (a b : Nat) : nI a ^^^ nI b = nI (a ^^^ b) := by
  apply Int32.toBitVec_inj.1
  show BitVec.ofNat 32 a ^^^ BitVec.ofNat 32 b = BitVec.ofNat 32 (a ^^^ b)
  apply BitVec.eq_of_getLsbD_eq
  intro i hi
  simp [hi]
theorem clr_bit (a s i : Nat) (h : a < 256) : (clr a s).testBit i = (a.testBit i && !decide (s = i)) := by
  unfold clr
  rw [Nat.testBit_and, Nat.testBit_xor, Nat.testBit_two_pow]
  have h2 : (255 : Nat).testBit i = decide (i < 8) := by
    have := Nat.testBit_two_pow_sub_one 8 i
    simpa using this
  rw [h2]
  by_cases h8 : i < 8
  · simp [h8]
  · have : a.testBit i = false := Nat.testBit_lt_two_pow (Nat.lt_of_lt_of_le h (by
      calc 256 = 2 ^ 8 := by decide
        _ ≤ 2 ^ i := Nat.pow_le_pow_right (by decide) (by omega)))
    simp [this]
theorem xor_lt {n a s : Nat} (ha : a < 2 ^ n) (hs : s < n) : a ^^^ 2 ^ s < 2 ^ n := Nat.xor_lt_two_pow ha (Nat.pow_lt_pow_right (by decide) hs)
theorem x_putLamp {hu de s v : Nat} (hh : hu < 256) (hd : de < 256) (hs : s < 8) (hv : v ≤ 2) : f_X2_putLamp (nI hu) (nI de) (nI s) (nI v) = some (nI (if v = 0 then clr hu s else hu ||| 2 ^ s), nI (if v = 2 then de ||| 2 ^ s else clr de s)) := by
  unfold f_X2_putLamp bk_X2_putLamp_26
  have e0 : (nI v = (0 : Int32)) = (v = 0) := kz_eq (a := v) (b := 0) (by omega) (by omega)
  have e2 : (nI v = (2 : Int32)) = (v = 2) := kz_eq (a := v) (b := 2) (by omega) (by omega)
  rw [kb_bit s hs]
  simp only [nm_, e0, e2]
  rw [kb_andn hh, kb_andn hd, fa_or, fa_or, show hu &&& (255 ^^^ 2 ^ s) = clr hu s from rfl, show de &&& (255 ^^^ 2 ^ s) = clr de s from rfl]
  by_cases c0 : v = 0
  · subst c0
    rfl
  · by_cases c2 : v = 2
    · subst c2
      rfl
    · rw [if_neg c0, if_neg c2, if_neg c0, if_neg c2]
theorem x_turnLamp {hu de s : Nat} (hh : hu < 256) (hd : de < 256) (hs : s < 8) : f_X2_turnLamp (nI hu) (nI de) (nI s) = some (nI (hu ^^^ 2 ^ s), nI (clr de s)) := by
  unfold f_X2_turnLamp bk_X2_turnLamp_15
  rw [x_lampAt (by omega) (by omega) (by omega), show (1 : Int32) = nI 1 from rfl, x_putLamp hh hd hs (by omega)]
  have e := x_putLamp hh hd hs (v := 0) (by omega)
  rw [show nI 0 = (0 : Int32) from rfl] at e
  rw [e]
  simp only [Option.bind_some, un2, lm_0]
  cases hb : hu.testBit s with
  | false =>
    rw [if_pos rfl, if_neg (by decide), if_neg (by decide), tb_or hu hh s hs hb]
  | true =>
    rw [if_neg (by decide), if_true, if_neg (by decide), tb_clr hu hh s hs hb]
theorem x_turnDead {hu de s : Nat} (hh : hu < 256) (hd : de < 256) (hs : s < 8) (hb : hu.testBit s = true) : f_X2_turnDead (nI hu) (nI de) (nI s) = some (nI hu, nI (de ^^^ 2 ^ s)) := by
  unfold f_X2_turnDead bk_X2_turnDead_16
  rw [x_lampAt (by omega) (by omega) (by omega), show (1 : Int32) = nI 1 from rfl, x_putLamp hh hd hs (by omega)]
  have e := x_putLamp hh hd hs (v := 2) (by omega)
  rw [show nI 2 = (2 : Int32) from rfl] at e
  rw [e]
  simp only [Option.bind_some, un2, lm_2, hb, Bool.true_and]
  rw [tb_id hu hh s hs hb]
  cases hb2 : de.testBit s with
  | false =>
    rw [if_neg (by decide), if_true, tb_or de hd s hs hb2, if_neg (by decide)]
  | true =>
    rw [if_pos rfl, if_neg (by decide), if_neg (by decide), tb_clr de hd s hs hb2]
theorem x_tellWant {W : Nat → Int32} {p : Nat} (hp : p < 6) (v : Int32) : f_X2_tellWant W (nI p) v = some (upd W p v) := by
  unfold f_X2_tellWant
  rw [if_neg (nI_pos (by omega)), if_neg (show ¬ (6 : Int32) ≤ nI p from nI_ge (b := 6) hp (by omega)), kz_ix hp (by omega), kz_cl (by omega)]
theorem va_lamp {P : Nat → Nat} {hu de st : Nat} {wt : Nat → Nat} (h8 : P 11 ≤ 8) (h : vaI P hu de st wt) {s : Nat} (hs : s < P 11) : vaI P (hu ^^^ 2 ^ s) (clr de s) st wt := by
  obtain ⟨a, b, c, d, e⟩ := h
  refine ⟨xor_lt a hs, fun i hi => ?_, Nat.lt_of_le_of_lt (clr_le de s) c, d, e⟩
  rw [clr_bit de s i c, Bool.and_eq_true] at hi
  have h1 := b i hi.1
  have h2 : ¬ s = i := by simpa using hi.2
  rw [Nat.testBit_xor, Nat.testBit_two_pow, h1]
  simp [h2]
theorem va_dead {P : Nat → Nat} {hu de st : Nat} {wt : Nat → Nat} (h8 : P 11 ≤ 8) (h : vaI P hu de st wt) {s : Nat} (hs : s < P 11) (hb : hu.testBit s = true) : vaI P hu (de ^^^ 2 ^ s) st wt := by
  obtain ⟨a, b, c, d, e⟩ := h
  refine ⟨a, fun i hi => ?_, xor_lt (n := 8) c (by omega), d, e⟩
  rw [Nat.testBit_xor, Nat.testBit_two_pow] at hi
  by_cases q : s = i
  · rw [← q]; exact hb
  · apply b
    simpa [q] using hi
theorem va_wall {P : Nat → Nat} {hu de st : Nat} {wt : Nat → Nat} (h : vaI P hu de st wt) {w : Nat} (hw : w < P 13) : vaI P hu de (st ^^^ 2 ^ w) wt := by
  obtain ⟨a, b, c, d, e⟩ := h
  exact ⟨a, b, c, xor_lt d hw, e⟩
/-- a want told -/
def wtU (wt : Nat → Nat) (p v : Nat) : Nat → Nat := fun k => if k = p then v else wt k
theorem va_want {P : Nat → Nat} {hu de st : Nat} {wt : Nat → Nat} (h : vaI P hu de st wt) {p v : Nat} (hv : v ≤ 99) : vaI P hu de st (wtU wt p v) := by
  obtain ⟨a, b, c, d, e⟩ := h
  refine ⟨a, b, c, d, fun q hq => ?_⟩
  unfold wtU
  split
  · exact hv
  · exact e q hq
theorem wt_upd {wt : Nat → Nat} {W : Nat → Int32} (h : wtI wt W) (p v : Nat) : wtI (wtU wt p v) (upd W p (nI v)) := by
  intro q hq
  unfold wtU
  by_cases c : q = p
  · rw [if_pos c, c, pk_us]
  · rw [if_neg c, pk_un c, h q hq]
theorem pg_upd {hu de st : Nat} {wt : Nat → Nat} {pg : Nat → Int32} (h : pgI hu de st wt pg) (p v : Nat) (hp : p < 6) : pgI hu de st (wtU wt p v) (upd pg (3 + p) (nI v)) := by
  obtain ⟨a, b, c, d⟩ := h
  refine ⟨by rw [pk_un (by omega)]; exact a, by rw [pk_un (by omega)]; exact b, by rw [pk_un (by omega)]; exact c, fun q hq => ?_⟩
  unfold wtU
  by_cases z : q = p
  · rw [if_pos z, z, pk_us]
  · rw [if_neg z, pk_un (by omega), d q hq]
theorem pg_0 {hu de st : Nat} {wt : Nat → Nat} {pg : Nat → Int32} (h : pgI hu de st wt pg) (v : Nat) : pgI v de st wt (upd pg 0 (nI v)) := by
  obtain ⟨a, b, c, d⟩ := h
  exact ⟨pk_us, by rw [pk_un (by omega)]; exact b, by rw [pk_un (by omega)]; exact c, fun q hq => by rw [pk_un (by omega)]; exact d q hq⟩
theorem pg_1 {hu de st : Nat} {wt : Nat → Nat} {pg : Nat → Int32} (h : pgI hu de st wt pg) (v : Nat) : pgI hu v st wt (upd pg 1 (nI v)) := by
  obtain ⟨a, b, c, d⟩ := h
  exact ⟨by rw [pk_un (by omega)]; exact a, pk_us, by rw [pk_un (by omega)]; exact c, fun q hq => by rw [pk_un (by omega)]; exact d q hq⟩
theorem pg_2 {hu de st : Nat} {wt : Nat → Nat} {pg : Nat → Int32} (h : pgI hu de st wt pg) (v : Nat) : pgI hu de v wt (upd pg 2 (nI v)) := by
  obtain ⟨a, b, c, d⟩ := h
  exact ⟨by rw [pk_un (by omega)]; exact a, by rw [pk_un (by omega)]; exact b, pk_us, fun q hq => by rw [pk_un (by omega)]; exact d q hq⟩
theorem m_hangOn {hu de st : Nat} {wt : Nat → Nat} {pg : Nat → Int32} (h : pgI hu de st wt pg) (hh : hu < 256) (hd : de < 256) {s : Nat} (hs : s < 8) : ∃ pg', f_X7_hangOn pg (nI s) = some pg' ∧ pgI (hu ^^^ 2 ^ s) (clr de s) st wt pg' := by
  obtain ⟨a, b, c, d⟩ := id h
  unfold f_X7_hangOn
  rw [show Int32.toNatClampNeg 0 = 0 from rfl, show Int32.toNatClampNeg 1 = 1 from rfl, pk_un (by omega), a, b, kb_bit s hs, fa_xor, kb_andn hd]
  exact ⟨_, rfl, pg_1 (pg_0 h _) _⟩
theorem m_noSpot {P : Nat → Nat} {plan : Nat → Int32} (h : plI P plan) (x : Int32) : f_X7_noSpot plan x = some (if 0 ≤ x ∧ x ≤ nI (P 11) - 1 then 0 else 1) := by
  unfold f_X7_noSpot f_X7_spots
  rw [show Int32.toNatClampNeg 11 = 11 from rfl, (h.1 11 (by omega)).1]
  simp only [Option.bind_some]
  rw [show (0 : Int64) = Int32.toInt64 0 from rfl, m_in]
  simp only [Option.bind_some, kz_b01i]
  by_cases c : 0 ≤ x ∧ x ≤ nI (P 11) - 1 <;> simp [c]
theorem m_noPoint {P : Nat → Nat} {plan : Nat → Int32} (h : plI P plan) (x : Int32) : f_X7_noPoint plan x = some (if 0 ≤ x ∧ x ≤ nI (P 12) - 1 then 0 else 1) := by
  unfold f_X7_noPoint f_X7_points
  rw [show Int32.toNatClampNeg 12 = 12 from rfl, (h.1 12 (by omega)).1]
  simp only [Option.bind_some]
  rw [show (0 : Int64) = Int32.toInt64 0 from rfl, m_in]
  simp only [Option.bind_some, kz_b01i]
  by_cases c : 0 ≤ x ∧ x ≤ nI (P 12) - 1 <;> simp [c]
theorem kz_in1 {n : Nat} (hn : n ≤ 100) (x : Int32) : (0 ≤ x ∧ x ≤ nI n - 1) ↔ ∃ j, j < n ∧ x = nI j := by
  constructor
  · intro ⟨h1, h2⟩
    rcases pk_ix x (n := n) (by omega) with q | q | q
    · rw [fa_le] at h1; rw [fa_lt] at q; omega
    · exfalso
      rw [fa_le] at h2 q
      rw [nI_toInt (by omega)] at q
      rcases Nat.eq_zero_or_pos n with z | z
      · subst z
        rw [show (nI 0 - 1 : Int32).toInt = -1 by decide] at h2
        have : (0 : Int32).toInt = 0 := by decide
        rw [fa_le] at h1
        omega
      · rw [show (1 : Int32) = nI 1 from rfl, pk_sub (by omega), nI_toInt (by omega)] at h2
        omega
    · exact q
  · rintro ⟨j, hj, rfl⟩
    rw [show (1 : Int32) = nI 1 from rfl, pk_sub (by omega)]
    exact ⟨nI_le (a := 0) (by omega) (by omega), nI_le (by omega) (by omega)⟩
theorem m_noSpotN {P : Nat → Nat} {plan : Nat → Int32} (h : plI P plan) {i : Nat} (hi : i < 2 ^ 31) : f_X7_noSpot plan (nI i) = some (if i < P 11 then 0 else 1) := by
  rw [m_noSpot h]
  have h8 := h.2.1
  by_cases c : i < P 11
  · rw [if_pos ((kz_in1 (by omega) _).mpr ⟨i, c, rfl⟩), if_pos c]
  · rw [if_neg (fun q => by obtain ⟨j, hj, e⟩ := (kz_in1 (by omega) _).mp q; have := (nI_eq hi (by omega)).mp e; omega), if_neg c]
theorem m_noPointN {P : Nat → Nat} {plan : Nat → Int32} (h : plI P plan) {i : Nat} (hi : i < 2 ^ 31) : f_X7_noPoint plan (nI i) = some (if i < P 12 then 0 else 1) := by
  rw [m_noPoint h]
  have h8 := h.2.2.1
  by_cases c : i < P 12
  · rw [if_pos ((kz_in1 (by omega) _).mpr ⟨i, c, rfl⟩), if_pos c]
  · rw [if_neg (fun q => by obtain ⟨j, hj, e⟩ := (kz_in1 (by omega) _).mp q; have := (nI_eq hi (by omega)).mp e; omega), if_neg c]
