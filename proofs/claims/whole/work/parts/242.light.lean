/-! SETS AS BITS; SHADE, LIGHT, SUMS -/
def mkb (f : Nat → Bool) : Nat → Nat
  | 0 => 0
  | n + 1 => mkb f n + (if f n then 2 ^ n else 0)
theorem mkb_lt (f : Nat → Bool) : ∀ n, mkb f n < 2 ^ n
  | 0 => by show 0 < 1; omega
  | n + 1 => by
    have := mkb_lt f n
    unfold mkb
    rw [Nat.pow_succ]
    split <;> omega
theorem mkb_or (f : Nat → Bool) (n : Nat) : mkb f n ||| 2 ^ n = mkb f n + 2 ^ n := by
  have h := Nat.two_pow_add_eq_or_of_lt (mkb_lt f n) 1
  rw [Nat.mul_one] at h
  rw [Nat.or_comm, ← h, Nat.add_comm]
theorem mkb_bit (f : Nat → Bool) : ∀ n i, (mkb f n).testBit i = (decide (i < n) && f i)
  | 0, i => by simp [mkb]
  | n + 1, i => by
    have ih := mkb_bit f n i
    unfold mkb
    by_cases h : f n = true
    · rw [if_pos h, ← mkb_or, Nat.testBit_or, ih, Nat.testBit_two_pow]
      by_cases e : n = i
      · subst e; simp [h]
      · simp [e]
        by_cases l : i < n
        · simp [l, show i < n + 1 by omega]
        · simp [l, show ¬ i < n + 1 by omega]
    · rw [if_neg h, Nat.add_zero, ih]
      by_cases l : i < n
      · simp [l, show i < n + 1 by omega]
      · by_cases e : i = n
        · subst e; simp [h]
        · simp [l, show ¬ i < n + 1 by omega]
theorem mkb_cong {f g : Nat → Bool} : ∀ {n : Nat}, (∀ i, i < n → f i = g i) → mkb f n = mkb g n
  | 0, _ => rfl
  | n + 1, h => by unfold mkb; rw [mkb_cong (fun i hi => h i (by omega)), h n (by omega)]
theorem mkb_self {a n : Nat} (h : a < 2 ^ n) : mkb (fun i => a.testBit i) n = a := by
  apply Nat.eq_of_testBit_eq
  intro i
  rw [mkb_bit]
  by_cases l : i < n
  · simp [l]
  · simp [l]
    exact (Nat.testBit_lt_two_pow (Nat.lt_of_lt_of_le h (Nat.pow_le_pow_right (show 2 > 0 by decide) (show n ≤ i by omega))))
theorem mkb_0 {f : Nat → Bool} {n : Nat} : mkb f n = 0 ↔ ∀ i, i < n → f i = false := by
  constructor
  · intro h i hi
    have := mkb_bit f n i
    rw [h] at this
    simpa [hi] using this.symm
  · intro h
    rw [mkb_cong (g := fun _ => false) h]
    clear h
    induction n with
    | zero => rfl
    | succ n ih => unfold mkb; simp [ih]
theorem mkb_put {f : Nat → Bool} {n : Nat} (hn : n < 8) : nI (mkb f n) ||| ((1 : Int32) <<< (nI n &&& 31)) = nI (mkb f n + 2 ^ n) := by rw [kb_bit n hn, fa_or, mkb_or]
/-- what x and y differ by, squared, together -/
def dd (a b : Nat) : Nat := (a - b) * (a - b) + (b - a) * (b - a)
theorem dd_I (a b : Nat) : (nI a - nI b) * (nI a - nI b) = nI (dd a b) := by
  rw [nI_iI a, nI_iI b, iI_sub, iI_mul, nI_iI]
  congr 1
  unfold dd
  rcases Nat.le_total a b with h | h
  · rw [show a - b = 0 by omega]
    have e : ((b - a : Nat) : Int) = (b : Int) - a := by omega
    push_cast
    rw [e]
    grind
  · rw [show b - a = 0 by omega]
    have e : ((a - b : Nat) : Int) = (a : Int) - b := by omega
    push_cast
    rw [e]
    grind
theorem dd_le {a b : Nat} (ha : a ≤ 9) (hb : b ≤ 9) : dd a b ≤ 81 := by
  unfold dd
  rcases Nat.le_total a b with h | h
  · rw [show a - b = 0 by omega]
    have : (b - a) * (b - a) ≤ 9 * 9 := Nat.mul_le_mul (by omega) (by omega)
    omega
  · rw [show b - a = 0 by omega]
    have : (a - b) * (a - b) ≤ 9 * 9 := Nat.mul_le_mul (by omega) (by omega)
    omega
def sqD (P : Nat → Nat) (s p : Nat) : Nat := dd (P (14 + 4 * s)) (P (46 + 2 * p)) + dd (P (15 + 4 * s)) (P (47 + 2 * p))
def blS (P : Nat → Nat) (s p : Nat) : Nat := if sqD P s p < 10 then P (16 + 4 * s) * P (sqD P s p) else 0
noncomputable def msk (P : Nat → Nat) (s p : Nat) : Nat := mkb (fun w => mtB P s p w) (P 13)
noncomputable def ltS (P : Nat → Nat) (st s p : Nat) : Nat := if msk P s p &&& st = 0 then blS P s p else 0
noncomputable def smS (P : Nat → Nat) (lv st p : Nat) : Nat := P 10 + fb_sm (fun s => if lv.testBit s then ltS P st s p else 0) (P 11)
section LG
variable {P : Nat → Nat} {plan tb sp po wa ac bL : Nat → Int32}
theorem sqD_le (h : plI P plan) {s p : Nat} (hs : s < P 11) (hp : p < P 12) : sqD P s p ≤ 162 := by
  obtain ⟨h0, h8, h6, h5⟩ := h
  unfold sqD
  have a := dd_le (h0 (14 + 4 * s) (by omega)).2 (h0 (46 + 2 * p) (by omega)).2
  have b := dd_le (h0 (15 + 4 * s) (by omega)).2 (h0 (47 + 2 * p) (by omega)).2
  omega
theorem blS_le (h : plI P plan) {s p : Nat} (hs : s < P 11) : blS P s p ≤ 81 := by
  obtain ⟨h0, h8, h6, h5⟩ := h
  unfold blS
  split
  · exact Nat.mul_le_mul (h0 (16 + 4 * s) (by omega)).2 (h0 _ (by omega)).2
  · omega
theorem ltS_le (h : plI P plan) {st s p : Nat} (hs : s < P 11) : ltS P st s p ≤ 81 := by
  unfold ltS
  split
  · exact blS_le h hs
  · omega
theorem smS_le (h : plI P plan) (lv st p : Nat) : smS P lv st p ≤ 657 := by
  have h0 := (h.1 10 (by omega)).2
  have h8 := h.2.1
  unfold smS
  have : fb_sm (fun s => if lv.testBit s then ltS P st s p else 0) (P 11) ≤ P 11 * 81 := fb_sm_bound (fun k hk => by
    split
    · exact ltS_le h hk
    · omega)
  have : P 11 * 81 ≤ 8 * 81 := Nat.mul_le_mul_right 81 h8
  omega
theorem msk_lt (h : plI P plan) (s p : Nat) : msk P s p < 32 := by
  have h5 := h.2.2.2
  have := mkb_lt (fun w => mtB P s p w) (P 13)
  have : 2 ^ P 13 ≤ 2 ^ 5 := Nat.pow_le_pow_right (by decide) h5
  unfold msk
  omega
theorem x_bare (h : plI P plan) (h2 : ptI P tb sp po wa) {s p : Nat} (hs : s < P 11) (hp : p < P 12) : f_X1_lightWithoutWalls tb sp po (nI s) (nI p) = some (nI (blS P s p)) := by
  have hq := sqD_le h hs hp
  have s0 := x_spotF h h2 hs (j := 0) (by omega)
  have s1 := x_spotF h h2 hs (j := 1) (by omega)
  have s2 := x_spotF h h2 hs (j := 2) (by omega)
  have p0 := x_pointF h h2 hp (j := 0) (by omega)
  have p1 := x_pointF h h2 hp (j := 1) (by omega)
  rw [Nat.add_zero] at s0 p0
  rw [show 14 + 4 * s + 1 = 15 + 4 * s by omega] at s1
  rw [show 14 + 4 * s + 2 = 16 + 4 * s by omega] at s2
  rw [show 46 + 2 * p + 1 = 47 + 2 * p by omega] at p1
  unfold f_X1_lightWithoutWalls nm_
  rw [show (0 : Int32) = nI 0 from rfl, show (1 : Int32) = nI 1 from rfl, show (2 : Int32) = nI 2 from rfl, show (10 : Int32) = nI 10 from rfl]
  simp only [s0, s1, s2, p0, p1, Option.bind_some, dd_I, nI_add]
  unfold blS
  rw [show dd (P (14 + 4 * s)) (P (46 + 2 * p)) + dd (P (15 + 4 * s)) (P (47 + 2 * p)) = sqD P s p from rfl]
  rw [if_neg (show ¬ (nI (sqD P s p) < nI 0) from nI_nlt (Nat.zero_le _) (by omega))]
  by_cases e : sqD P s p < 10
  · rw [if_pos (nI_lt e (by omega)), if_pos e, show nI 0 = (0 : Int32) from rfl, kz_ix e (by omega), kz_cl (by omega), h2.1 _ e, pk_mul]
  · rw [if_neg (nI_nlt (by omega) (by omega)), if_neg e]
/-- what the class keeps of each ray -/
def raI (P : Nat → Nat) (ac bL : Nat → Int32) : Prop := ∀ s, s < P 11 → ∀ p, p < P 12 → ac (s * 6 + p) = nI (msk P s p) ∧ bL (s * 6 + p) = nI (blS P s p)
theorem x_ray_w (h : plI P plan) (h2 : ptI P tb sp po wa) {s p : Nat} (hs : s < P 11) (hp : p < P 12) (k2 k12 : (Nat → Int32) → (Nat → Int32) → Int32 → Option ((Nat → Int32) × (Nat → Int32))) (A B : Nat → Int32) : lp_X1_throwRays_61 k2 k12 (nI (P 11)) (nI (P 12)) (nI (P 13)) tb sp po wa B (nI s) (nI p) (nI (s * 6 + p)) 1000 (upd A (s * 6 + p) 0) 0 = k12 (upd A (s * 6 + p) (nI (msk P s p))) B (nI (p + 1)) := by
  obtain ⟨h0, h8, h6, h5⟩ := id h
  have key := lp_up1 (fun n2 y i => lp_X1_throwRays_61 k2 k12 (nI (P 11)) (nI (P 12)) (nI (P 13)) tb sp po wa B (nI s) (nI p) (nI (s * 6 + p)) n2 y i) (fun w => upd A (s * 6 + p) (nI (mkb (fun w => mtB P s p w) w))) (P 13) (k12 (upd A (s * 6 + p) (nI (msk P s p))) B (nI (p + 1))) (fun n2 => ?_) (fun n2 w hw => ?_) 1000 0 (by omega) (by omega)
  · exact key
  · rw [le_X1_throwRays_61]
    unfold bk_X1_throwRays_61
    rw [if_pos (nI_le (Nat.le_refl _) (by omega))]
    simp only [nm_, nI_1]
    rfl
  · rw [le_X1_throwRays_61]
    unfold bk_X1_throwRays_61
    rw [if_neg (nI_ge hw (by omega)), x_meets h h2 hs hp hw]
    simp only [Option.bind_some, kz_b01, nm_, nI_1]
    rw [kz_ix (by omega) (by omega), kz_ix (by omega) (by omega), kz_cl (by omega), pk_us, mkb_put (by omega), fa_upd_twice]
    show _ = lp_X1_throwRays_61 _ _ _ _ _ _ _ _ _ _ _ _ _ _ (upd A (s * 6 + p) (nI (mkb (fun w => mtB P s p w) (w + 1)))) _
    have e : mkb (fun w => mtB P s p w) (w + 1) = mkb (fun w => mtB P s p w) w + (if mtB P s p w then 2 ^ w else 0) := rfl
    rw [e]
    cases mtB P s p w <;> simp
noncomputable def arA (P : Nat → Nat) (f : Nat → Nat → Nat) (A : Nat → Int32) : Nat → Nat → Int32
  | 0 => A
  | s + 1 => fb_put (arA P f A s) (fun p => nI (f s p)) (s * 6) (P 12)
theorem arA_in (P : Nat → Nat) (f : Nat → Nat → Nat) (A : Nat → Int32) (h6 : P 12 ≤ 6) : ∀ n s p, s < n → p < P 12 → arA P f A n (s * 6 + p) = nI (f s p)
  | 0, s, p, h, _ => by omega
  | n + 1, s, p, h, hp => by
    unfold arA
    rcases Nat.lt_or_ge s n with q | q
    · rw [fb_put_out (by omega)]; exact arA_in P f A h6 n s p q hp
    · have : s = n := by omega
      subst this
      rw [fb_put_in (by omega) (by omega), show s * 6 + p - s * 6 = p by omega]
theorem x_ray_p (h : plI P plan) (h2 : ptI P tb sp po wa) {s : Nat} (hs : s < P 11) (k2 : (Nat → Int32) → (Nat → Int32) → Int32 → Option ((Nat → Int32) × (Nat → Int32))) (A B : Nat → Int32) : lp_X1_throwRays_18 k2 (nI (P 11)) (nI (P 12)) (nI (P 13)) tb sp po wa (nI s) 1000 A B 0 = k2 (fb_put A (fun p => nI (msk P s p)) (s * 6) (P 12)) (fb_put B (fun p => nI (blS P s p)) (s * 6) (P 12)) (nI (s + 1)) := by
  obtain ⟨h0, h8, h6, h5⟩ := id h
  have key := lp_up2 (fun n2 y z i => lp_X1_throwRays_18 k2 (nI (P 11)) (nI (P 12)) (nI (P 13)) tb sp po wa (nI s) n2 y z i) (fun p => fb_put A (fun p => nI (msk P s p)) (s * 6) p) (fun p => fb_put B (fun p => nI (blS P s p)) (s * 6) p) (P 12) (k2 (fb_put A (fun p => nI (msk P s p)) (s * 6) (P 12)) (fb_put B (fun p => nI (blS P s p)) (s * 6) (P 12)) (nI (s + 1))) (fun n2 => ?_) (fun n2 p hp => ?_) 1000 0 (by omega) (by omega)
  · rw [fb_put_0, fb_put_0] at key
    exact key
  · rw [le_X1_throwRays_18]
    unfold bk_X1_throwRays_18
    rw [if_pos (nI_le (Nat.le_refl _) (by omega))]
    simp only [nm_, nI_1]
  · rw [le_X1_throwRays_18]
    unfold bk_X1_throwRays_18
    rw [if_neg (nI_ge hp (by omega)), show (6 : Int32) = nI 6 from rfl, if_neg (nI_ge (show p < 6 by omega) (by omega)), x_bare h h2 hs hp, pk_mul, nI_add]
    simp only [Option.bind_some, nm_]
    rw [kz_ix (by omega) (by omega), kz_ix (by omega) (by omega), kz_cl (by omega), x_ray_w h h2 hs hp, fb_put_succ A (fun p => nI (msk P s p)) (s * 6) p, fb_put_succ B (fun p => nI (blS P s p)) (s * 6) p]
theorem x_rays (h : plI P plan) (h2 : ptI P tb sp po wa) (A B : Nat → Int32) : ∃ A' B', f_X1_throwRays (nI (P 11)) (nI (P 12)) (nI (P 13)) tb sp po wa A B = some (A', B') ∧ raI P A' B' := by
  obtain ⟨h0, h8, h6, h5⟩ := id h
  unfold f_X1_throwRays
  have key := lp_up2 (fun n2 y z i => lp_X1_throwRays_2 (nI (P 11)) (nI (P 12)) (nI (P 13)) tb sp po wa n2 y z i) (fun s => arA P (msk P) A s) (fun s => arA P (blS P) B s) (P 11) (some (arA P (msk P) A (P 11), arA P (blS P) B (P 11))) (fun n2 => ?_) (fun n2 s hs => ?_) 1000 0 (by omega) (by omega)
  · exact ⟨_, _, key, fun s hs p hp => ⟨arA_in P _ A h6 _ s p hs hp, arA_in P _ B h6 _ s p hs hp⟩⟩
  · rw [le_X1_throwRays_2]
    unfold bk_X1_throwRays_2
    rw [if_pos (nI_le (Nat.le_refl _) (by omega))]
  · rw [le_X1_throwRays_2]
    unfold bk_X1_throwRays_2
    rw [if_neg (nI_ge hs (by omega)), show (8 : Int32) = nI 8 from rfl, if_neg (nI_ge (show s < 8 by omega) (by omega)), x_ray_p h h2 hs]
    rfl
end LG
