/-! RAYS, WALLS, LIGHT -/
def iI (z : Int) : Int32 := Int32.ofInt z
theorem nI_iI (n : Nat) : nI n = iI (n : Int) := by
  apply Int32.toBitVec_inj.mp
  show BitVec.ofNat 32 n = BitVec.ofInt 32 (n : Int)
  simp
theorem iI_add (a b : Int) : iI a + iI b = iI (a + b) := (Int32.ofInt_add a b).symm
theorem iI_mul (a b : Int) : iI a * iI b = iI (a * b) := (Int32.ofInt_mul a b).symm
theorem iI_sub (a b : Int) : iI a - iI b = iI (a - b) := (Int32.ofInt_sub a b).symm
theorem iI_toInt {z : Int} (h : -2147483648 ≤ z ∧ z ≤ 2147483647) : (iI z).toInt = z := by
  unfold iI
  rw [Int32.toInt_ofInt, show Int32.size = 4294967296 from rfl]
  exact Int.bmod_eq_of_le (by omega) (by omega)
theorem bd_mul {x y M N : Int} (hx : -M ≤ x ∧ x ≤ M) (hy : -N ≤ y ∧ y ≤ N) : -(M * N) ≤ x * y ∧ x * y ≤ M * N := by
  have h1 := Int.mul_nonneg (show 0 ≤ M - x by omega) (show 0 ≤ N + y by omega)
  have h2 := Int.mul_nonneg (show 0 ≤ M + x by omega) (show 0 ≤ N - y by omega)
  have h3 := Int.mul_nonneg (show 0 ≤ M - x by omega) (show 0 ≤ N - y by omega)
  have h4 := Int.mul_nonneg (show 0 ≤ M + x by omega) (show 0 ≤ N + y by omega)
  have e1 : (M - x) * (N + y) + (M + x) * (N - y) = 2 * (M * N) - 2 * (x * y) := by grind
  have e2 : (M - x) * (N - y) + (M + x) * (N + y) = 2 * (M * N) + 2 * (x * y) := by grind
  omega
theorem kz_min {a b : Nat} (ha : a < 2 ^ 31) (hb : b < 2 ^ 31) : (if nI b < nI a then nI b else nI a) = nI (min a b) := by
  by_cases h : b < a
  · rw [if_pos (nI_lt h ha), Nat.min_eq_right (by omega)]
  · rw [if_neg (nI_nlt (by omega) (by omega)), Nat.min_eq_left (by omega)]
theorem kz_max {a b : Nat} (ha : a < 2 ^ 31) (hb : b < 2 ^ 31) : (if nI a < nI b then nI b else nI a) = nI (max a b) := by
  by_cases h : a < b
  · rw [if_pos (nI_lt h hb), Nat.max_eq_right (by omega)]
  · rw [if_neg (nI_nlt (by omega) (by omega)), Nat.max_eq_left (by omega)]
theorem x_spans {a b c d : Nat} (ha : a < 100) (hb : b < 100) (hc : c < 100) (hd : d < 100) [Decidable (gV a b c d)] : f_X1_spansMeet (nI a) (nI b) (nI c) (nI d) = some (if gV a b c d then 1 else 0) := by
  unfold f_X1_spansMeet
  simp (disch := omega) only [nm_, kz_min, kz_max]
  simp (disch := omega) only [kz_lt]
  by_cases h : gV a b c d
  · rw [if_pos h]
    unfold gV at h
    rw [if_neg (show ¬ min (max a b) (max c d) < max (min a b) (min c d) by omega)]
  · rw [if_neg h]
    unfold gV at h
    rw [if_pos (show min (max a b) (max c d) < max (min a b) (min c d) by omega)]
theorem gS_bd {a b c d e f : Nat} (ha : a < 20) (hb : b < 20) (hc : c < 20) (hd : d < 20) (he : e < 20) (hf : f < 20) : -800 ≤ gS a b c d e f ∧ gS a b c d e f ≤ 800 := by
  unfold gS
  have h1 := bd_mul (x := (c : Int) - a) (y := (f : Int) - b) (M := 20) (N := 20) (by omega) (by omega)
  have h2 := bd_mul (x := (d : Int) - b) (y := (e : Int) - a) (M := 20) (N := 20) (by omega) (by omega)
  omega
theorem x_side (a b c d e f : Nat) : f_X1_side (nI a) (nI b) (nI c) (nI d) (nI e) (nI f) = some (iI (gS a b c d e f)) := by
  unfold f_X1_side gS
  simp only [nI_iI, iI_sub, iI_mul]
/-- the eight numbers of a ray and a wall -/
def mtP (P : Nat → Nat) (s p w : Nat) : Prop :=
  gV (2 * P (14 + 4 * s) + 1 : Nat) (2 * P (46 + 2 * p) + 1 : Nat) (2 * P (58 + 4 * w) : Nat) (2 * P (60 + 4 * w) : Nat) ∧
  gV (2 * P (15 + 4 * s) + 1 : Nat) (2 * P (47 + 2 * p) + 1 : Nat) (2 * P (59 + 4 * w) : Nat) (2 * P (61 + 4 * w) : Nat) ∧
  gS (2 * P (14 + 4 * s) + 1 : Nat) (2 * P (15 + 4 * s) + 1 : Nat) (2 * P (46 + 2 * p) + 1 : Nat) (2 * P (47 + 2 * p) + 1 : Nat) (2 * P (58 + 4 * w) : Nat) (2 * P (59 + 4 * w) : Nat) * gS (2 * P (14 + 4 * s) + 1 : Nat) (2 * P (15 + 4 * s) + 1 : Nat) (2 * P (46 + 2 * p) + 1 : Nat) (2 * P (47 + 2 * p) + 1 : Nat) (2 * P (60 + 4 * w) : Nat) (2 * P (61 + 4 * w) : Nat) ≤ 0 ∧
  gS (2 * P (58 + 4 * w) : Nat) (2 * P (59 + 4 * w) : Nat) (2 * P (60 + 4 * w) : Nat) (2 * P (61 + 4 * w) : Nat) (2 * P (14 + 4 * s) + 1 : Nat) (2 * P (15 + 4 * s) + 1 : Nat) * gS (2 * P (58 + 4 * w) : Nat) (2 * P (59 + 4 * w) : Nat) (2 * P (60 + 4 * w) : Nat) (2 * P (61 + 4 * w) : Nat) (2 * P (46 + 2 * p) + 1 : Nat) (2 * P (47 + 2 * p) + 1 : Nat) ≤ 0
noncomputable def mtB (P : Nat → Nat) (s p w : Nat) : Bool := @decide (mtP P s p w) (Classical.propDecidable _)
theorem mtB_iff (P : Nat → Nat) (s p w : Nat) : mtB P s p w = true ↔ mtP P s p w := by unfold mtB; simp
/-- the plan, as the reference has it, as numbers -/
def plI (P : Nat → Nat) (plan : Nat → Int32) : Prop := (∀ i, i < 78 → plan i = nI (P i) ∧ P i ≤ 9) ∧ P 11 ≤ 8 ∧ P 12 ≤ 6 ∧ P 13 ≤ 5
/-- the parts of the plan, as the class has them -/
def ptI (P : Nat → Nat) (tb sp po wa : Nat → Int32) : Prop := (∀ i, i < 10 → tb i = nI (P i)) ∧ (∀ s, s < P 11 → ∀ j, j < 4 → sp (s * 4 + j) = nI (P (14 + 4 * s + j))) ∧ (∀ p, p < P 12 → ∀ j, j < 2 → po (p * 4 + j) = nI (P (46 + 2 * p + j))) ∧ (∀ w, w < P 13 → ∀ j, j < 4 → wa (w * 4 + j) = nI (P (58 + 4 * w + j)))
theorem x_figureOf {nB : Nat} {B : Nat → Int32} {a j v : Nat} (hn : nB ≤ 100) (h : a * 4 + j < nB) (hv : B (a * 4 + j) = nI v) : f_X1_figureOf nB B (nI a) (nI j) = some (nI v) := by
  unfold f_X1_figureOf
  rw [show (4 : Int32) = nI 4 from rfl, pk_mul, nI_add]
  simp only [nm_]
  rw [if_neg (nI_pos (by omega)), if_pos (show nI (a * 4 + j) < Int32.ofNat nB from nI_lt h (by omega)), kz_ix h (by omega), kz_cl (by omega), hv]
section RY
variable {P : Nat → Nat} {plan tb sp po wa : Nat → Int32}
theorem x_spotF (h : plI P plan) (h2 : ptI P tb sp po wa) {s j : Nat} (hs : s < P 11) (hj : j < 4) : f_X1_spotFigure sp (nI s) (nI j) = some (nI (P (14 + 4 * s + j))) := by
  have h8 := h.2.1
  unfold f_X1_spotFigure
  rw [x_figureOf (by omega) (by omega) (h2.2.1 s hs j hj)]
  rfl
theorem x_pointF (h : plI P plan) (h2 : ptI P tb sp po wa) {p j : Nat} (hp : p < P 12) (hj : j < 2) : f_X1_pointFigure po (nI p) (nI j) = some (nI (P (46 + 2 * p + j))) := by
  have h8 := h.2.2.1
  unfold f_X1_pointFigure
  rw [x_figureOf (by omega) (by omega) (h2.2.2.1 p hp j hj)]
  rfl
theorem x_wallF (h : plI P plan) (h2 : ptI P tb sp po wa) {w j : Nat} (hw : w < P 13) (hj : j < 4) : f_X1_wallFigure wa (nI w) (nI j) = some (nI (P (58 + 4 * w + j))) := by
  have h8 := h.2.2.2
  unfold f_X1_wallFigure
  rw [x_figureOf (by omega) (by omega) (h2.2.2.2 w hw j hj)]
  rfl
theorem iI_pos {z : Int} (h : -2147483648 ≤ z ∧ z ≤ 2147483647) : ((0 : Int32) < iI z) = (0 < z) := by
  rw [fa_lt, iI_toInt h]
  rfl
theorem x_meets (h : plI P plan) (h2 : ptI P tb sp po wa) {s p w : Nat} (hs : s < P 11) (hp : p < P 12) (hw : w < P 13) : f_X1_meets sp po wa (nI s) (nI p) (nI w) = some (if mtB P s p w then 1 else 0) := by
  obtain ⟨h0, h8, h6, h5⟩ := h
  have hh : plI P plan := ⟨h0, h8, h6, h5⟩
  have b1 := (h0 (14 + 4 * s) (by omega)).2
  have b2 := (h0 (15 + 4 * s) (by omega)).2
  have b3 := (h0 (46 + 2 * p) (by omega)).2
  have b4 := (h0 (47 + 2 * p) (by omega)).2
  have b5 := (h0 (58 + 4 * w) (by omega)).2
  have b6 := (h0 (59 + 4 * w) (by omega)).2
  have b7 := (h0 (60 + 4 * w) (by omega)).2
  have b8 := (h0 (61 + 4 * w) (by omega)).2
  have s0 := x_spotF hh h2 hs (j := 0) (by omega)
  have s1 := x_spotF hh h2 hs (j := 1) (by omega)
  have p0 := x_pointF hh h2 hp (j := 0) (by omega)
  have p1 := x_pointF hh h2 hp (j := 1) (by omega)
  have w0 := x_wallF hh h2 hw (j := 0) (by omega)
  have w1 := x_wallF hh h2 hw (j := 1) (by omega)
  have w2 := x_wallF hh h2 hw (j := 2) (by omega)
  have w3 := x_wallF hh h2 hw (j := 3) (by omega)
  rw [Nat.add_zero] at s0 p0 w0
  rw [show 14 + 4 * s + 1 = 15 + 4 * s by omega] at s1
  rw [show 46 + 2 * p + 1 = 47 + 2 * p by omega] at p1
  rw [show 58 + 4 * w + 1 = 59 + 4 * w by omega] at w1
  rw [show 58 + 4 * w + 2 = 60 + 4 * w by omega] at w2
  rw [show 58 + 4 * w + 3 = 61 + 4 * w by omega] at w3
  have hm' : (if mtB P s p w then (1 : Int32) else 0) = (@ite _ (mtP P s p w) (Classical.propDecidable _) 1 0) := by
    by_cases z : mtP P s p w
    · rw [if_pos ((mtB_iff P s p w).mpr z), if_pos z]
    · rw [if_neg (fun y => z ((mtB_iff P s p w).mp y)), if_neg z]
  unfold mtP at hm'
  unfold f_X1_meets
  rw [show (0 : Int32) = nI 0 from rfl, show (1 : Int32) = nI 1 from rfl, show (2 : Int32) = nI 2 from rfl, show (3 : Int32) = nI 3 from rfl]
  simp only [s0, s1, p0, p1, w0, w1, w2, w3, Option.bind_some, nm_, pk_mul, nI_add]
  classical
  rw [x_spans (by omega) (by omega) (by omega) (by omega), x_spans (by omega) (by omega) (by omega) (by omega), x_side, x_side, x_side, x_side]
  have g1 := gS_bd (a := 2 * P (14 + 4 * s) + 1) (b := 2 * P (15 + 4 * s) + 1) (c := 2 * P (46 + 2 * p) + 1) (d := 2 * P (47 + 2 * p) + 1) (e := 2 * P (58 + 4 * w)) (f := 2 * P (59 + 4 * w)) (by omega) (by omega) (by omega) (by omega) (by omega) (by omega)
  have g2 := gS_bd (a := 2 * P (14 + 4 * s) + 1) (b := 2 * P (15 + 4 * s) + 1) (c := 2 * P (46 + 2 * p) + 1) (d := 2 * P (47 + 2 * p) + 1) (e := 2 * P (60 + 4 * w)) (f := 2 * P (61 + 4 * w)) (by omega) (by omega) (by omega) (by omega) (by omega) (by omega)
  have g3 := gS_bd (a := 2 * P (58 + 4 * w)) (b := 2 * P (59 + 4 * w)) (c := 2 * P (60 + 4 * w)) (d := 2 * P (61 + 4 * w)) (e := 2 * P (14 + 4 * s) + 1) (f := 2 * P (15 + 4 * s) + 1) (by omega) (by omega) (by omega) (by omega) (by omega) (by omega)
  have g4 := gS_bd (a := 2 * P (58 + 4 * w)) (b := 2 * P (59 + 4 * w)) (c := 2 * P (60 + 4 * w)) (d := 2 * P (61 + 4 * w)) (e := 2 * P (46 + 2 * p) + 1) (f := 2 * P (47 + 2 * p) + 1) (by omega) (by omega) (by omega) (by omega) (by omega) (by omega)
  have d1 := bd_mul (M := 800) (N := 800) g1 g2
  have d2 := bd_mul (M := 800) (N := 800) g3 g4
  simp only [Option.bind_some, show nI 0 = (0 : Int32) from rfl, show nI 1 = (1 : Int32) from rfl, kz_b01i, iI_mul]
  rw [hm']
  generalize gS (2 * P (14 + 4 * s) + 1 : Nat) (2 * P (15 + 4 * s) + 1 : Nat) (2 * P (46 + 2 * p) + 1 : Nat) (2 * P (47 + 2 * p) + 1 : Nat) (2 * P (58 + 4 * w) : Nat) (2 * P (59 + 4 * w) : Nat) * gS (2 * P (14 + 4 * s) + 1 : Nat) (2 * P (15 + 4 * s) + 1 : Nat) (2 * P (46 + 2 * p) + 1 : Nat) (2 * P (47 + 2 * p) + 1 : Nat) (2 * P (60 + 4 * w) : Nat) (2 * P (61 + 4 * w) : Nat) = S12 at *
  generalize gS (2 * P (58 + 4 * w) : Nat) (2 * P (59 + 4 * w) : Nat) (2 * P (60 + 4 * w) : Nat) (2 * P (61 + 4 * w) : Nat) (2 * P (14 + 4 * s) + 1 : Nat) (2 * P (15 + 4 * s) + 1 : Nat) * gS (2 * P (58 + 4 * w) : Nat) (2 * P (59 + 4 * w) : Nat) (2 * P (60 + 4 * w) : Nat) (2 * P (61 + 4 * w) : Nat) (2 * P (46 + 2 * p) + 1 : Nat) (2 * P (47 + 2 * p) + 1 : Nat) = S34 at *
  simp only [iI_pos (show -2147483648 ≤ S12 ∧ S12 ≤ 2147483647 by omega), iI_pos (show -2147483648 ≤ S34 ∧ S34 ≤ 2147483647 by omega)]
  by_cases c1 : gV (2 * P (14 + 4 * s) + 1 : Nat) (2 * P (46 + 2 * p) + 1 : Nat) (2 * P (58 + 4 * w) : Nat) (2 * P (60 + 4 * w) : Nat)
  · by_cases c2 : gV (2 * P (15 + 4 * s) + 1 : Nat) (2 * P (47 + 2 * p) + 1 : Nat) (2 * P (59 + 4 * w) : Nat) (2 * P (61 + 4 * w) : Nat)
    · rw [if_neg (fun z => z c1), if_neg (fun z => z c2)]
      by_cases c3 : 0 < S12
      · rw [if_pos c3, if_neg (fun z => by have := z.2.2.1; omega)]
      · rw [if_neg c3]
        by_cases c4 : 0 < S34
        · rw [if_pos c4, if_neg (fun z => by have := z.2.2.2; omega)]
        · rw [if_neg c4, if_pos ⟨c1, c2, by omega, by omega⟩]
    · rw [if_neg (fun z => z c1), if_pos c2, if_neg (fun z => c2 z.2.1)]
  · rw [if_pos c1, if_neg (fun z => c1 z.1)]
end RY
