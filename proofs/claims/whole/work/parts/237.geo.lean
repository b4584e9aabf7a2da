/-! TWO LINES MEET: the class's test and the reference's -/
def gS (ax ay bx by' cx cy : Int) : Int := (bx - ax) * (cy - ay) - (by' - ay) * (cx - ax)
def gB (a b v : Int) : Prop := (a ≤ v ∧ v ≤ b) ∨ (b ≤ v ∧ v ≤ a)
def gOn (ax ay bx by' cx cy : Int) : Prop := gS ax ay bx by' cx cy = 0 ∧ gB ax bx cx ∧ gB ay by' cy
def gV (a b c d : Int) : Prop := ¬ (a < c ∧ a < d ∧ b < c ∧ b < d) ∧ ¬ (c < a ∧ c < b ∧ d < a ∧ d < b)
theorem gS_swap (ax ay bx by' cx cy : Int) : gS bx by' ax ay cx cy = - gS ax ay bx by' cx cy := by unfold gS; grind
/-- the weights of the point in common -/
theorem gI_x (ax ay bx by' cx cy dx dy : Int) : gS ax ay bx by' dx dy * cx - gS ax ay bx by' cx cy * dx = gS cx cy dx dy ax ay * bx - gS cx cy dx dy bx by' * ax := by unfold gS; grind
theorem gI_y (ax ay bx by' cx cy dx dy : Int) : gS ax ay bx by' dx dy * cy - gS ax ay bx by' cx cy * dy = gS cx cy dx dy ax ay * by' - gS cx cy dx dy bx by' * ay := by unfold gS; grind
theorem gK (ax ay bx by' cx cy dx dy : Int) : gS ax ay bx by' dx dy - gS ax ay bx by' cx cy = gS cx cy dx dy ax ay - gS cx cy dx dy bx by' := by unfold gS; grind
theorem sg_le {x y : Int} (h : x * y ≤ 0) : (0 ≤ x ∧ y ≤ 0) ∨ (x ≤ 0 ∧ 0 ≤ y) := by
  rcases Int.lt_trichotomy x 0 with a | a | a
  · rcases Int.lt_trichotomy y 0 with b | b | b
    · have := Int.mul_pos_of_neg_of_neg a b; omega
    · right; omega
    · right; omega
  · omega
  · rcases Int.lt_trichotomy y 0 with b | b | b
    · left; omega
    · left; omega
    · have := Int.mul_pos a b; omega
theorem sg_lt {x y : Int} (h : x * y < 0) : (0 < x ∧ y < 0) ∨ (x < 0 ∧ 0 < y) := by
  rcases Int.lt_trichotomy x 0 with a | a | a
  · rcases Int.lt_trichotomy y 0 with b | b | b
    · have := Int.mul_pos_of_neg_of_neg a b; omega
    · subst b; simp at h
    · right; omega
  · subst a; simp at h
  · rcases Int.lt_trichotomy y 0 with b | b | b
    · left; omega
    · subst b; simp at h
    · have := Int.mul_pos a b; omega
/-- a weighed mean lies between -/
theorem mean_btw {p q w a b : Int} (hp : 0 ≤ p) (hq : 0 ≤ q) (hw : 0 < p + q) (h : (p + q) * w = p * a + q * b) : gB a b w := by
  rcases Int.le_total a b with z | z
  · left
    constructor
    · have h1 := Int.mul_le_mul_of_nonneg_left z hq
      have h2 : (p + q) * a ≤ (p + q) * w := by rw [h, Int.add_mul]; omega
      exact Int.le_of_mul_le_mul_left h2 hw
    · have h1 := Int.mul_le_mul_of_nonneg_left z hp
      have h2 : (p + q) * w ≤ (p + q) * b := by rw [h, Int.add_mul]; omega
      exact Int.le_of_mul_le_mul_left h2 hw
  · right
    constructor
    · have h1 := Int.mul_le_mul_of_nonneg_left z hp
      have h2 : (p + q) * b ≤ (p + q) * w := by rw [h, Int.add_mul]; omega
      exact Int.le_of_mul_le_mul_left h2 hw
    · have h1 := Int.mul_le_mul_of_nonneg_left z hq
      have h2 : (p + q) * w ≤ (p + q) * a := by rw [h, Int.add_mul]; omega
      exact Int.le_of_mul_le_mul_left h2 hw
/-- c on the line of a and b, not all in one line, a and b on both sides of c d: c lies between -/
theorem g_end {ax ay bx by' cx cy dx dy : Int} (h0 : gS ax ay bx by' cx cy = 0) (hK : gS ax ay bx by' dx dy ≠ 0) (h : gS cx cy dx dy ax ay * gS cx cy dx dy bx by' ≤ 0) : gOn ax ay bx by' cx cy := by
  have ix := gI_x ax ay bx by' cx cy dx dy
  have iy := gI_y ax ay bx by' cx cy dx dy
  have iK := gK ax ay bx by' cx cy dx dy
  rw [h0] at ix iy iK
  refine ⟨h0, ?_, ?_⟩
  · rcases sg_le h with ⟨a, b⟩ | ⟨a, b⟩
    · refine mean_btw (p := - gS cx cy dx dy bx by') (q := gS cx cy dx dy ax ay) (by omega) a (by omega) ?_
      have : - gS cx cy dx dy bx by' + gS cx cy dx dy ax ay = gS ax ay bx by' dx dy := by omega
      rw [this]; grind
    · refine mean_btw (p := gS cx cy dx dy bx by') (q := - gS cx cy dx dy ax ay) b (by omega) (by omega) ?_
      have : gS cx cy dx dy bx by' + - gS cx cy dx dy ax ay = - gS ax ay bx by' dx dy := by omega
      rw [this]; grind
  · rcases sg_le h with ⟨a, b⟩ | ⟨a, b⟩
    · refine mean_btw (p := - gS cx cy dx dy bx by') (q := gS cx cy dx dy ax ay) (by omega) a (by omega) ?_
      have : - gS cx cy dx dy bx by' + gS cx cy dx dy ax ay = gS ax ay bx by' dx dy := by omega
      rw [this]; grind
    · refine mean_btw (p := gS cx cy dx dy bx by') (q := - gS cx cy dx dy ax ay) b (by omega) (by omega) ?_
      have : gS cx cy dx dy bx by' + - gS cx cy dx dy ax ay = - gS ax ay bx by' dx dy := by omega
      rw [this]; grind
/-- on a line that isn't upright, between in x is between in y -/
theorem g_line {ax ay bx by' cx cy : Int} (h0 : gS ax ay bx by' cx cy = 0) (hne : ax ≠ bx) (h : gB ax bx cx) : gB ay by' cy := by
  unfold gS at h0
  rcases h with ⟨h1, h2⟩ | ⟨h1, h2⟩
  · refine mean_btw (p := bx - cx) (q := cx - ax) (by omega) (by omega) (by omega) ?_
    grind
  · refine mean_btw (p := cx - bx) (q := ax - cx) (by omega) (by omega) (by omega) ?_
    grind
theorem g_comm {ax ay bx by' cx cy : Int} (h : gOn ax ay bx by' cx cy) : gOn bx by' ax ay cx cy := by
  obtain ⟨h1, h2, h3⟩ := h
  refine ⟨by rw [gS_swap, h1]; rfl, ?_, ?_⟩
  · unfold gB at h2 ⊢; omega
  · unfold gB at h3 ⊢; omega
/-- all in one line -/
theorem g_col {ax ay bx by' cx cy dx dy : Int} (h1 : gS ax ay bx by' cx cy = 0) (h2 : gS ax ay bx by' dx dy = 0) (h3 : gS cx cy dx dy ax ay = 0) (h4 : gS cx cy dx dy bx by' = 0) (hx : gV ax bx cx dx) (hy : gV ay by' cy dy) : gOn cx cy dx dy ax ay ∨ gOn cx cy dx dy bx by' ∨ gOn ax ay bx by' cx cy ∨ gOn ax ay bx by' dx dy := by
  unfold gV at hx hy
  by_cases e : ax = bx
  · by_cases e2 : ay = by'
    · left
      refine ⟨h3, ?_, ?_⟩
      · unfold gB; omega
      · unfold gB; omega
    · have c1 : cx = ax := by
        unfold gS at h1
        have : (by' - ay) * (cx - ax) = 0 := by rw [e] at h1 ⊢; simp at h1; omega
        rcases Int.mul_eq_zero.mp this with z | z <;> omega
      have d1 : dx = ax := by
        unfold gS at h2
        have : (by' - ay) * (dx - ax) = 0 := by rw [e] at h2 ⊢; simp at h2; omega
        rcases Int.mul_eq_zero.mp this with z | z <;> omega
      have : gB ay by' cy ∨ gB ay by' dy ∨ gB cy dy ay := by unfold gB; omega
      rcases this with z | z | z
      · right; right; left; exact ⟨h1, by unfold gB; omega, z⟩
      · right; right; right; exact ⟨h2, by unfold gB; omega, z⟩
      · left; exact ⟨h3, by unfold gB; omega, z⟩
  · by_cases z1 : gB ax bx cx
    · right; right; left; exact ⟨h1, z1, g_line h1 e z1⟩
    · by_cases z2 : gB ax bx dx
      · right; right; right; exact ⟨h2, z2, g_line h2 e z2⟩
      · have z3 : gB cx dx ax := by unfold gB at z1 z2 ⊢; omega
        left
        exact ⟨h3, z3, g_line h3 (by intro q; unfold gB at z1 z3; omega) z3⟩
theorem sq_pos {x : Int} (h : x * x ≤ 0) : x = 0 := by
  rcases Int.lt_trichotomy x 0 with a | a | a
  · have := Int.mul_pos_of_neg_of_neg a a; omega
  · exact a
  · have := Int.mul_pos a a; omega
theorem g_r1 (a b c d : Int) : (a * d) * (b * c) = (a * c) * (b * d) := by grind
theorem g_r2 (p q a b c d : Int) : (p * b - q * a) * (p * d - q * c) = p * p * (b * d) - p * q * (b * c) - q * p * (a * d) + q * q * (a * c) := by grind
/-- an end that lies on the other line: both tests -/
theorem g_on {ax ay bx by' cx cy dx dy : Int} (h : gOn cx cy dx dy ax ay) : gS ax ay bx by' cx cy * gS ax ay bx by' dx dy ≤ 0 := by
  obtain ⟨h1, h2, h3⟩ := h
  have X : (cx - ax) * (dx - ax) ≤ 0 := by
    rcases h2 with ⟨a, b⟩ | ⟨a, b⟩
    · have := Int.mul_nonneg (show 0 ≤ ax - cx by omega) (show 0 ≤ dx - ax by omega)
      have e : (cx - ax) * (dx - ax) = - ((ax - cx) * (dx - ax)) := by grind
      omega
    · have := Int.mul_nonneg (show 0 ≤ cx - ax by omega) (show 0 ≤ ax - dx by omega)
      have e : (cx - ax) * (dx - ax) = - ((cx - ax) * (ax - dx)) := by grind
      omega
  have Y : (cy - ay) * (dy - ay) ≤ 0 := by
    rcases h3 with ⟨a, b⟩ | ⟨a, b⟩
    · have := Int.mul_nonneg (show 0 ≤ ay - cy by omega) (show 0 ≤ dy - ay by omega)
      have e : (cy - ay) * (dy - ay) = - ((ay - cy) * (dy - ay)) := by grind
      omega
    · have := Int.mul_nonneg (show 0 ≤ cy - ay by omega) (show 0 ≤ ay - dy by omega)
      have e : (cy - ay) * (dy - ay) = - ((cy - ay) * (ay - dy)) := by grind
      omega
  have t0 : (cx - ax) * (dy - ay) = (cy - ay) * (dx - ax) := by unfold gS at h1; grind
  unfold gS
  generalize bx - ax = p at *
  generalize by' - ay = q at *
  generalize cx - ax = ux at *
  generalize cy - ay = uy at *
  generalize dx - ax = vx at *
  generalize dy - ay = vy at *
  by_cases hY : uy * vy < 0
  · have key : (uy * vy) * ((p * uy - q * ux) * (p * vy - q * vx)) = (p * (uy * vy) - q * (ux * vy)) * (p * (uy * vy) - q * (ux * vy)) := by grind
    by_cases z : 0 < (p * uy - q * ux) * (p * vy - q * vx)
    · have h5 := Int.mul_neg_of_neg_of_pos hY z
      rw [key] at h5
      rcases Int.lt_trichotomy (p * (uy * vy) - q * (ux * vy)) 0 with a | a | a
      · have := Int.mul_pos_of_neg_of_neg a a; omega
      · rw [a] at h5; simp at h5
      · have := Int.mul_pos a a; omega
    · omega
  · have hY0 : uy * vy = 0 := by omega
    by_cases hX : ux * vx < 0
    · have key : (ux * vx) * ((p * uy - q * ux) * (p * vy - q * vx)) = (q * (ux * vx) - p * (ux * vy)) * (q * (ux * vx) - p * (ux * vy)) := by grind
      by_cases z : 0 < (p * uy - q * ux) * (p * vy - q * vx)
      · have h5 := Int.mul_neg_of_neg_of_pos hX z
        rw [key] at h5
        rcases Int.lt_trichotomy (q * (ux * vx) - p * (ux * vy)) 0 with a | a | a
        · have := Int.mul_pos_of_neg_of_neg a a; omega
        · rw [a] at h5; simp at h5
        · have := Int.mul_pos a a; omega
      · omega
    · have hX0 : ux * vx = 0 := by omega
      have ht := g_r1 ux uy vx vy
      rw [← t0, hX0, Int.zero_mul] at ht
      have ht0 : ux * vy = 0 := by rcases Int.mul_eq_zero.mp ht with z | z <;> exact z
      have := g_r2 p q ux uy vx vy
      rw [hY0, hX0, ← t0, ht0] at this
      rw [this]
      simp
theorem g_sp {p q r t a b c d : Int} (hp : 0 < p) (hq : 0 < q) (hr : 0 < r) (ht : 0 < t) (hs : p + q = r + t) (he : p * c + q * d = r * b + t * a) : gV a b c d := by
  have low : ∀ {x y z w m : Int}, 0 < x → 0 < y → m ≤ z → m ≤ w → (x + y) * m ≤ x * z + y * w := fun hx hy hz hw => by
    have h1 := Int.mul_le_mul_of_nonneg_left hz (Int.le_of_lt hx)
    have h2 := Int.mul_le_mul_of_nonneg_left hw (Int.le_of_lt hy)
    rw [Int.add_mul]; omega
  have up : ∀ {x y z w m : Int}, 0 < x → 0 < y → z ≤ m → w ≤ m → x * z + y * w ≤ (x + y) * m := fun hx hy hz hw => by
    have h1 := Int.mul_le_mul_of_nonneg_left hz (Int.le_of_lt hx)
    have h2 := Int.mul_le_mul_of_nonneg_left hw (Int.le_of_lt hy)
    rw [Int.add_mul]; omega
  constructor
  · intro ⟨u1, u2, u3, u4⟩
    rcases Int.le_total a b with z | z
    · have m1 := low (m := b + 1) hp hq (show b + 1 ≤ c by omega) (show b + 1 ≤ d by omega)
      have m2 := up (m := b) hr ht (Int.le_refl b) z
      rw [← hs, ← he] at m2
      rw [Int.mul_add] at m1
      omega
    · have m1 := low (m := a + 1) hp hq (show a + 1 ≤ c by omega) (show a + 1 ≤ d by omega)
      have m2 := up (m := a) hr ht z (Int.le_refl a)
      rw [← hs, ← he] at m2
      rw [Int.mul_add] at m1
      omega
  · intro ⟨u1, u2, u3, u4⟩
    rcases Int.le_total c d with z | z
    · have m1 := up (m := d) hp hq z (Int.le_refl d)
      have m2 := low (m := d + 1) hr ht (show d + 1 ≤ b by omega) (show d + 1 ≤ a by omega)
      rw [← hs, ← he, Int.mul_add] at m2
      omega
    · have m1 := up (m := c) hp hq (Int.le_refl c) z
      have m2 := low (m := c + 1) hr ht (show c + 1 ≤ b by omega) (show c + 1 ≤ a by omega)
      rw [← hs, ← he, Int.mul_add] at m2
      omega
theorem g_span {a b c d s1 s2 s3 s4 : Int} (hI : s2 * c - s1 * d = s3 * b - s4 * a) (hK : s2 - s1 = s3 - s4) (h1 : s1 * s2 < 0) (h3 : s3 * s4 < 0) : gV a b c d := by
  rcases sg_lt h1 with ⟨p1, p2⟩ | ⟨p1, p2⟩
  · have q3 : s3 < 0 ∧ 0 < s4 := by rcases sg_lt h3 with z | z <;> omega
    refine g_sp (p := -s2) (q := s1) (r := -s3) (t := s4) (by omega) p1 (by omega) q3.2 (by omega) ?_
    rw [Int.neg_mul, Int.neg_mul]; omega
  · have q3 : 0 < s3 ∧ s4 < 0 := by rcases sg_lt h3 with z | z <;> omega
    refine g_sp (p := s2) (q := -s1) (r := s3) (t := -s4) p2 (by omega) q3.1 (by omega) (by omega) ?_
    rw [Int.neg_mul, Int.neg_mul]; omega
/-- THE TWO TESTS AGREE -/
theorem g_meets (ax ay bx by' cx cy dx dy : Int) : (gV ax bx cx dx ∧ gV ay by' cy dy ∧ gS ax ay bx by' cx cy * gS ax ay bx by' dx dy ≤ 0 ∧ gS cx cy dx dy ax ay * gS cx cy dx dy bx by' ≤ 0) ↔ ((gOn cx cy dx dy ax ay ∨ gOn cx cy dx dy bx by' ∨ gOn ax ay bx by' cx cy ∨ gOn ax ay bx by' dx dy) ∨ (gS cx cy dx dy ax ay * gS cx cy dx dy bx by' < 0 ∧ gS ax ay bx by' cx cy * gS ax ay bx by' dx dy < 0)) := by
  have iK := gK ax ay bx by' cx cy dx dy
  constructor
  · intro ⟨hx, hy, h1, h3⟩
    by_cases z1 : gS ax ay bx by' cx cy * gS ax ay bx by' dx dy < 0
    · by_cases z3 : gS cx cy dx dy ax ay * gS cx cy dx dy bx by' < 0
      · right; exact ⟨z3, z1⟩
      · left
        have z4 : gS cx cy dx dy ax ay * gS cx cy dx dy bx by' = 0 := by omega
        have hKn : gS ax ay bx by' dx dy - gS ax ay bx by' cx cy ≠ 0 := by rcases sg_lt z1 with q | q <;> omega
        rcases Int.mul_eq_zero.mp z4 with q | q
        · left; exact g_end q (by omega) h1
        · right; left
          refine g_comm (g_end (ax := dx) (ay := dy) (bx := cx) (by' := cy) (cx := bx) (cy := by') (dx := ax) (dy := ay) (by rw [gS_swap, q]; rfl) (by rw [gS_swap]; omega) ?_)
          rw [gS_swap ax ay bx by' dx dy, gS_swap ax ay bx by' cx cy, Int.neg_mul_neg, Int.mul_comm]
          exact h1
    · have z4 : gS ax ay bx by' cx cy * gS ax ay bx by' dx dy = 0 := by omega
      by_cases hKn : gS ax ay bx by' dx dy = gS ax ay bx by' cx cy
      · have e1 : gS ax ay bx by' cx cy = 0 := by rw [hKn] at z4; rcases Int.mul_eq_zero.mp z4 with q | q <;> exact q
        have e2 : gS ax ay bx by' dx dy = 0 := by omega
        have e3 : gS cx cy dx dy ax ay = gS cx cy dx dy bx by' := by omega
        have e4 : gS cx cy dx dy bx by' = 0 := by rw [e3] at h3; exact sq_pos h3
        left; exact g_col e1 e2 (by omega) e4 hx hy
      · left
        rcases Int.mul_eq_zero.mp z4 with q | q
        · right; right; left; exact g_end q (by omega) h3
        · right; right; right
          refine g_end (ax := ax) (ay := ay) (bx := bx) (by' := by') (cx := dx) (cy := dy) (dx := cx) (dy := cy) q (by omega) ?_
          rw [gS_swap cx cy dx dy ax ay, gS_swap cx cy dx dy bx by', Int.neg_mul_neg]
          exact h3
  · intro h
    rcases h with (h | h | h | h) | ⟨h1, h2⟩
    · have k := g_on (bx := bx) (by' := by') h
      obtain ⟨q1, q2, q3⟩ := h
      refine ⟨by unfold gB at q2; unfold gV; omega, by unfold gB at q3; unfold gV; omega, k, by rw [q1]; simp⟩
    · have k := g_on (bx := ax) (by' := ay) h
      obtain ⟨q1, q2, q3⟩ := h
      refine ⟨by unfold gB at q2; unfold gV; omega, by unfold gB at q3; unfold gV; omega, ?_, by rw [q1]; simp⟩
      rw [gS_swap ax ay bx by' cx cy, gS_swap ax ay bx by' dx dy, Int.neg_mul_neg] at k
      exact k
    · have k := g_on (bx := dx) (by' := dy) h
      obtain ⟨q1, q2, q3⟩ := h
      refine ⟨by unfold gB at q2; unfold gV; omega, by unfold gB at q3; unfold gV; omega, by rw [q1]; simp, k⟩
    · have k := g_on (bx := cx) (by' := cy) h
      obtain ⟨q1, q2, q3⟩ := h
      refine ⟨by unfold gB at q2; unfold gV; omega, by unfold gB at q3; unfold gV; omega, by rw [q1]; simp, ?_⟩
      rw [gS_swap cx cy dx dy ax ay, gS_swap cx cy dx dy bx by', Int.neg_mul_neg] at k
      exact k
    · exact ⟨g_span (gI_x ax ay bx by' cx cy dx dy) iK h2 h1, g_span (gI_y ax ay bx by' cx cy dx dy) iK h2 h1, by omega, by omega⟩
