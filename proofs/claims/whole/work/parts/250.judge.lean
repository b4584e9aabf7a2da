/-! JUDGE -/
theorem m_in64 (x a b : Int64) : f_X7_in x a b = some (if a ≤ x ∧ x ≤ b then 1 else 0) := by
  unfold f_X7_in
  simp only [lg_cmp_lt, lg_cmp_gt]
  by_cases h1 : x < a
  · rw [if_pos h1, if_neg]
    intro h
    rw [fa_lt64] at h1
    have := (fa_le64 _ _).mp h.1
    omega
  · rw [if_neg h1]
    by_cases h2 : b < x
    · rw [if_pos h2, if_neg]
      intro h
      rw [fa_lt64] at h2
      have := (fa_le64 _ _).mp h.2
      omega
    · rw [if_neg h2, if_pos]
      rw [fa_lt64] at h1 h2
      rw [fa_le64, fa_le64]
      omega
theorem m_in32 (x : Int32) (a b : Int32) {a' b' : Int64} (ea : a' = Int32.toInt64 a) (eb : b' = Int32.toInt64 b) : f_X7_in (Int32.toInt64 x) a' b' = some (if a ≤ x ∧ x ≤ b then 1 else 0) := by rw [ea, eb, m_in]
theorem sub_m1 : ∀ n, n < 9 → nI n - 1 = nI n + -1 := by decide +kernel
theorem m_lpow : ∀ n, n < 5 → f_X7_longPower 10000 (nI n) = some (lN (10000 ^ n)) := by decide +kernel
theorem x_copyFrom (a b c : Int32) (W0 : Nat → Int32) (h d s : Int32) (W : Nat → Int32) : ∃ W', f_X2_copyFrom a b c W0 h d s W = some (h, d, s, W') ∧ ∀ p, p < 6 → W' p = W p := by
  unfold f_X2_copyFrom
  have key := lp_up1 (fun n2 y i => lp_X2_copyFrom_26 h d s W n2 y i) (fun j => fb_put W0 W 0 j) 6 (some (h, d, s, fb_put W0 W 0 6)) (fun n2 => ?_) (fun n2 j hj => ?_) 1000 0 (Nat.zero_le _) (by omega)
  · rw [fb_put_0] at key
    exact ⟨_, key, fun p hp => fb_put_in (by omega) (by omega)⟩
  · rw [le_X2_copyFrom_26]
    unfold bk_X2_copyFrom_26
    rw [if_pos (show (6 : Int32) ≤ nI 6 from nI_le (a := 6) (Nat.le_refl _) (by omega))]
  · rw [le_X2_copyFrom_26]
    unfold bk_X2_copyFrom_26
    have fs := fb_put_succ W0 W 0 j
    rw [Nat.zero_add] at fs
    rw [if_neg (show ¬ (6 : Int32) ≤ nI j from nI_ge (b := 6) hj (by omega)), kz_ix hj (by omega), kz_ix hj (by omega), kz_cl (by omega), fs]
    simp only [nm_, nI_1]
theorem m_copy (U V : Nat → Int32) : ∃ V', f_X7_copy U V = some V' ∧ ∀ p, p < 9 → V' p = U p := by
  unfold f_X7_copy
  have key := lp_up1 (fun n2 y i => lp_X7_copy_2 U n2 y i) (fun j => fb_put V U 0 j) 9 (some (fb_put V U 0 9)) (fun n2 => ?_) (fun n2 j hj => ?_) 1000 0 (Nat.zero_le _) (by omega)
  · rw [fb_put_0] at key
    exact ⟨_, key, fun p hp => fb_put_in (by omega) (by omega)⟩
  · rw [le_X7_copy_2]
    unfold bk_X7_copy_2
    rw [if_pos (show (9 : Int32) ≤ nI 9 from nI_le (a := 9) (Nat.le_refl _) (by omega))]
  · rw [le_X7_copy_2]
    unfold bk_X7_copy_2
    have fs := fb_put_succ V U 0 j
    rw [Nat.zero_add] at fs
    rw [if_neg (show ¬ (9 : Int32) ≤ nI j from nI_ge (b := 9) hj (by omega)), kz_ix hj (by omega), kz_ix hj (by omega), kz_cl (by omega), fs]
    simp only [nm_, nI_1]
theorem pg_same {hu de st : Nat} {wt : Nat → Nat} {pg pg' : Nat → Int32} (h : pgI hu de st wt pg) (e : ∀ p, p < 9 → pg' p = pg p) : pgI hu de st wt pg' := by
  obtain ⟨a, b, c, d⟩ := h
  exact ⟨by rw [e 0 (by omega)]; exact a, by rw [e 1 (by omega)]; exact b, by rw [e 2 (by omega)]; exact c, fun p hp => by rw [e (3 + p) (by omega)]; exact d p hp⟩
theorem wt_same {wt : Nat → Nat} {W W' : Nat → Int32} (h : wtI wt W) (e : ∀ p, p < 6 → W' p = W p) : wtI wt W' := fun p hp => by rw [e p hp]; exact h p hp
section JU
variable {P wt : Nat → Nat} {plan tb sp po wa ac bL W pg : Nat → Int32} {hu de st : Nat}
theorem x_fill (g s p w : Int32) (nh nd ns : Int32) (nw : Nat → Int32) (rh rd rs : Int32) (rw0 : Nat → Int32) (cnt : Int32) : ∀ (n2 k v : Nat) (D : Nat → Int32), k ≤ 4 → v < 2 ^ 63 → k < n2 → ∃ D', lp_X6_judge_27 g s p w ac bL nh nd ns nw rh rd rs rw0 cnt n2 D (lN v) (nI k + -1) = bk_X6_judge_60 D' g s p w ac bL nh nd ns nw rh rd rs rw0 cnt (lN (v / 10000 ^ k)) ∧ (∀ i, i < k → D' i = nI (v / 10000 ^ (k - 1 - i) % 10000)) ∧ (∀ i, k ≤ i → D' i = D i)
  | 0, k, v, D, _, _, h => by omega
  | n2 + 1, 0, v, D, _, _, _ => by
    rw [le_X6_judge_27]
    unfold bk_X6_judge_27
    rw [if_pos (show nI 0 + (-1 : Int32) < 0 by decide)]
    exact ⟨D, by rw [Nat.pow_zero, Nat.div_one], fun i h => by omega, fun i _ => rfl⟩
  | n2 + 1, k + 1, v, D, hk, hv, hf => by
    have hlt : v / 10000 < 2 ^ 63 := Nat.lt_of_le_of_lt (Nat.div_le_self _ _) hv
    rw [le_X6_judge_27]
    unfold bk_X6_judge_27
    rw [pk_m1, if_neg (nI_pos (by omega)), kz_ix (by omega) (by omega), kz_cl (by omega), show (10000 : Int64) = lN 10000 from rfl, pk_lRem hv (by omega) (by omega), pk_lDiv hv (by omega) (by omega), lN_i]
    simp only [nm_]
    obtain ⟨D', e, q1, q2⟩ := x_fill g s p w nh nd ns nw rh rd rs rw0 cnt n2 k (v / 10000) (upd D k (nI (v % 10000))) (by omega) hlt (by omega)
    refine ⟨D', ?_, fun i hi => ?_, fun i hi => ?_⟩
    · rw [e, Nat.div_div_eq_div_mul, Nat.pow_succ, Nat.mul_comm]
    · rcases Nat.lt_or_ge i k with z | z
      · rw [q1 i z, Nat.div_div_eq_div_mul, show k + 1 - 1 - i = (k - 1 - i) + 1 by omega, Nat.pow_succ, Nat.mul_comm]
      · have : i = k := by omega
        subst this
        rw [q2 i (Nat.le_refl _), pk_us, show i + 1 - 1 - i = 0 by omega, Nat.pow_zero, Nat.div_one]
    · rw [q2 i (by omega), pk_un (by omega)]
theorem run_judge (h : plI P plan) (hr : raI P ac bL) {n v : Nat} (hn : n ≤ 4) (hvv : v < 2 ^ 63) {D : Nat → Int32} (hD : ∀ i, i < n → D i = nI (v / 10000 ^ (n - 1 - i) % 10000)) : ∀ (n2 i hu de st : Nat) (wt : Nat → Nat) (W pg : Nat → Int32), i ≤ n → n - i < n2 → vaI P hu de st wt → wtI wt W → pgI hu de st wt pg → ∃ r a b c W' pg', lp_X6_judge_84 D (nI (P 10)) (nI (P 11)) (nI (P 12)) (nI (P 13)) ac bL (nI n) n2 (nI hu) (nI de) (nI st) W (nI i) = some (r, D, a, b, c, W') ∧ lp_X7_judge_51 0 plan (nI n) (lN v) n2 pg (nI i) = some (r, 0, pg') := by
  intro n2
  induction n2 with
  | zero => intro i _ _ _ _ _ _ _ hf; omega
  | succ n2 ih =>
    intro i hu de st wt W pg hi hf hv hW hg
    rw [le_X6_judge_84, le_X7_judge_51]
    unfold bk_X6_judge_84 bk_X7_judge_51
    rcases Nat.lt_or_ge i n with q | q
    · rw [if_neg (nI_ge q (by omega)), if_neg (nI_ge q (by omega)), kz_ix (by omega) (by omega), kz_cl (by omega), hD i q, show (1 : Int32) = nI 1 from rfl, pk_sub (by omega), pk_sub (by omega), m_lpow _ (by omega)]
      have hp : 10000 ^ (n - 1 - i) ≤ 10000 ^ 4 := Nat.pow_le_pow_right (by omega) (by omega)
      have hp0 : 0 < 10000 ^ (n - 1 - i) := Nat.pow_pos (by omega)
      have hp1 : 10000 ^ (n - 1 - i) < 2 ^ 63 := Nat.lt_of_le_of_lt hp (by decide)
      have hq : v / 10000 ^ (n - 1 - i) < 2 ^ 63 := Nat.lt_of_le_of_lt (Nat.div_le_self _ _) hvv
      simp only [Option.bind_some, nm_]
      rw [if_neg (show ¬ lN (10000 ^ (n - 1 - i)) = 0 from fun z => by have := (pk_lEQ (b := 0) hp1 (by omega)).mp z; omega), pk_lDiv hvv hp0 hp1, show (10000 : Int64) = lN 10000 from rfl, pk_lRem hq (by omega) (by omega), lN_i]
      have hd : v / 10000 ^ (n - 1 - i) % 10000 < 10000 := Nat.mod_lt _ (by omega)
      obtain ⟨r, hu', de', st', wt', W', pg', e1, e2, hv', hW', hg'⟩ := step_does h hr hv hW hg hd
      rw [show (1000 : Int32) = nI 1000 from rfl, show (100 : Int32) = nI 100 from rfl, show (10 : Int32) = nI 10 from rfl, pk_div (d := 1000) (show v / 10000 ^ (n - 1 - i) % 10000 < 2 ^ 31 by omega) (by omega) (by omega), pk_div (d := 100) (show v / 10000 ^ (n - 1 - i) % 10000 < 2 ^ 31 by omega) (by omega) (by omega), pk_rem (a := v / 10000 ^ (n - 1 - i) % 10000 / 100) (d := 10) (by omega) (by omega) (by omega), pk_rem (d := 10) (show v / 10000 ^ (n - 1 - i) % 10000 < 2 ^ 31 by omega) (by omega) (by omega), pk_div (d := 10) (show v / 10000 ^ (n - 1 - i) % 10000 < 2 ^ 31 by omega) (by omega) (by omega), pk_rem (a := v / 10000 ^ (n - 1 - i) % 10000 / 10) (d := 10) (by omega) (by omega) (by omega), e1, e2]
      simp only [Option.bind_some, un5, un2]
      by_cases cr : r = 0
      · rw [if_pos cr, if_pos cr]
        exact ⟨_, _, _, _, _, _, rfl, rfl⟩
      · rw [if_neg cr, if_neg cr, nI_add]
        exact ih (i + 1) hu' de' st' wt' W' pg' q (by omega) hv' hW' hg'
    · have : i = n := by omega
      subst this
      rw [if_pos (nI_le (Nat.le_refl _) (by omega)), if_pos (nI_le (Nat.le_refl _) (by omega))]
      exact ⟨_, _, _, _, _, _, rfl, rfl⟩
theorem c_judge (h : plI P plan) (hr : raI P ac bL) (hv : vaI P hu de st wt) (hW : wtI wt W) (hg : pgI hu de st wt pg) (D : Nat → Int32) (rh rd rs : Int32) (rw0 tr : Nat → Int32) (th p1 : Int32) (p2 : Int64) : ∃ r D' a b c W' tr', f_X6_judge D (nI (P 10)) (nI (P 11)) (nI (P 12)) (nI (P 13)) ac bL (nI hu) (nI de) (nI st) W rh rd rs rw0 p1 p2 = some (r, D', a, b, c, W') ∧ f_X7_judge th plan pg tr p1 p2 = some (r, 0, tr') := by
  unfold f_X6_judge f_X7_judge
  rw [m_in32 p1 1 4 (a' := 1) (b' := 4) rfl rfl]
  simp only [Option.bind_some, kz_b01i, lg_cmp_ge]
  rcases pk_ix p1 (n := 5) (by omega) with q | q | ⟨n, hn5, rfl⟩
  · have c1 : p1 < 1 := by rw [fa_lt] at *; have : (0 : Int32).toInt = 0 := rfl; have : (1 : Int32).toInt = 1 := rfl; omega
    rw [if_pos c1, if_pos (fun z => by have := (fa_le _ _).mp z.1; rw [fa_lt] at c1; omega)]
    exact ⟨_, _, _, _, _, _, _, rfl, rfl⟩
  · have c2 : 4 < p1 := by rw [fa_le, nI_toInt (by omega)] at q; rw [fa_lt]; have : (4 : Int32).toInt = 4 := rfl; omega
    have c1 : ¬ p1 < 1 := by rw [fa_lt] at *; have : (4 : Int32).toInt = 4 := rfl; have : (1 : Int32).toInt = 1 := rfl; omega
    rw [if_neg c1, if_pos c2, if_pos (fun z => by have := (fa_le _ _).mp z.2; rw [fa_lt] at c2; omega)]
    exact ⟨_, _, _, _, _, _, _, rfl, rfl⟩
  · have e1 : (nI n < (1 : Int32)) = (n < 1) := kz_lt (b := 1) (by omega) (by omega)
    have e2 : ((4 : Int32) < nI n) = (4 < n) := kz_lt (a := 4) (by omega) (by omega)
    have e3 : ((1 : Int32) ≤ nI n) = (1 ≤ n) := kz_le (a := 1) (by omega) (by omega)
    have e4 : (nI n ≤ (4 : Int32)) = (n ≤ 4) := kz_le (b := 4) (by omega) (by omega)
    simp only [e1, e2, e3, e4]
    by_cases c1 : n < 1
    · rw [if_pos c1, if_pos (by omega)]
      exact ⟨_, _, _, _, _, _, _, rfl, rfl⟩
    · rw [if_neg c1, if_neg (show ¬ 4 < n by omega), if_neg (show ¬ ¬ (1 ≤ n ∧ n ≤ 4) by omega), m_lpow n (by omega)]
      simp only [Option.bind_some]
      have hp : 10000 ^ n ≤ 10000 ^ 4 := Nat.pow_le_pow_right (by omega) (by omega)
      have hp0 : 0 < 10000 ^ n := Nat.pow_pos (by omega)
      have hp1 : 10000 ^ n < 2 ^ 63 := Nat.lt_of_le_of_lt hp (by decide)
      rw [show (1 : Int64) = lN 1 from rfl, lN_sub (by omega), m_in64]
      simp only [Option.bind_some, kz_b01i, nm_]
      by_cases c3 : p2 < 0
      · have c4 : ¬ (0 : Int64) ≤ p2 := by rw [fa_le64]; rw [fa_lt64] at c3; omega
        rw [if_neg c4, if_pos (fun z => c4 z.1)]
        exact ⟨_, _, _, _, _, _, _, rfl, rfl⟩
      · obtain ⟨v, hv2, rfl⟩ := pk_lOf c3
        have c4 : (0 : Int64) ≤ lN v := (pk_lLE (a := 0) (by omega) hv2).mpr (by omega)
        have e5 : (lN v ≤ lN (10000 ^ n - 1)) = (v ≤ 10000 ^ n - 1) := propext (pk_lLE hv2 (by omega))
        rw [if_pos c4]
        simp only [e5]
        have en : nI n - 1 = nI n + -1 := sub_m1 n (by omega)
        rw [en]
        obtain ⟨D', e6, q1, q2⟩ := x_fill (ac := ac) (bL := bL) (nI (P 10)) (nI (P 11)) (nI (P 12)) (nI (P 13)) (nI hu) (nI de) (nI st) W rh rd rs rw0 (nI n) 1000 n v D (by omega) hv2 (by omega)
        rw [e6]
        unfold bk_X6_judge_60
        simp only [lg_cmp_eq]
        have hq : v / 10000 ^ n < 2 ^ 63 := Nat.lt_of_le_of_lt (Nat.div_le_self _ _) hv2
        have e7 : (lN (v / 10000 ^ n) = 0) = (v / 10000 ^ n = 0) := propext (pk_lEQ (b := 0) hq (by omega))
        simp only [e7]
        by_cases c5 : v ≤ 10000 ^ n - 1
        · have c6 : v / 10000 ^ n = 0 := Nat.div_eq_of_lt (by omega)
          rw [if_pos c6, if_neg (show ¬ ¬ ((0 : Int64) ≤ lN v ∧ v ≤ 10000 ^ n - 1) from fun z => z ⟨c4, c5⟩)]
          obtain ⟨W', ex, hx⟩ := x_copyFrom rh rd rs rw0 (nI hu) (nI de) (nI st) W
          obtain ⟨tr', em, hm⟩ := m_copy pg tr
          rw [ex, em]
          simp only [Option.bind_some, un4]
          obtain ⟨r, a, b, c, W2, pg2, f1, f2⟩ := run_judge h hr (show n ≤ 4 by omega) hv2 q1 1000 0 hu de st wt W' tr' (by omega) (by omega) hv (wt_same hW hx) (pg_same hg hm)
          exact ⟨r, D', a, b, c, W2, pg2, f1, f2⟩
        · have c6 : ¬ v / 10000 ^ n = 0 := fun z => by
            have := (Nat.div_eq_zero_iff).mp z
            omega
          rw [if_neg c6, if_pos (fun z => c5 z.2)]
          exact ⟨_, _, _, _, _, _, _, rfl, rfl⟩
end JU
