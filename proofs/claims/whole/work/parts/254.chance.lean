/-! CHANCES -/
theorem sm_mul (c : Nat) (f : Nat → Nat) : ∀ n, fb_sm (fun k => c * f k) n = c * fb_sm f n
  | 0 => rfl
  | n + 1 => by rw [fb_sm_succ, fb_sm_succ, sm_mul c f n, Nat.mul_add]
theorem pc_add : ∀ m, m < 8 → ∀ k, k < 128 → k < 2 ^ m → pcN (2 ^ m + k) = pcN k + 1 := by decide +kernel
theorem sb_eq {a b c d : Nat} (ha : a < 256) (hc : c < 256) (h : (∀ i, a.testBit i = true → b.testBit i = true) ↔ (∀ i, c.testBit i = true → d.testBit i = true)) : sbN a b = sbN c d := Bool.eq_iff_iff.mpr (by rw [sb_bit ha, sb_bit hc]; exact h)
theorem tb_ad {m k : Nat} (h : k < 2 ^ m) (i : Nat) : (2 ^ m + k).testBit i = (decide (m = i) || k.testBit i) := by rw [ad_or h, Nat.testBit_or, Nat.testBit_two_pow]
def bnT (p q lv j : Nat) : Nat := if sbN j lv then q ^ pcN j * p ^ (pcN lv - pcN j) else 0
theorem bn_sum {p q : Nat} (hpq : p + q = 10) : ∀ m, m ≤ 8 → ∀ lv, lv < 2 ^ m → fb_sm (bnT p q lv) (2 ^ m) = 10 ^ pcN lv
  | 0, _, lv, h => by
    have : lv = 0 := by rw [Nat.pow_zero] at h; omega
    subst this
    rfl
  | m + 1, hm, lv, h => by
    have h7 : (2 : Nat) ^ m ≤ 128 := Nat.pow_le_pow_right (n := 2) (j := 7) (by decide) (by omega)
    have ih := bn_sum hpq m (by omega)
    rw [Nat.pow_succ] at h
    rw [Nat.pow_succ, Nat.mul_two, fb_sm_split]
    rcases Nat.lt_or_ge lv (2 ^ m) with z | z
    · have e1 : fb_sm (fun k => bnT p q lv (2 ^ m + k)) (2 ^ m) = fb_sm (fun _ => 0) (2 ^ m) := fb_sm_cong (fun k hk => by
        have : sbN (2 ^ m + k) lv = false := by
          cases e : sbN (2 ^ m + k) lv with
          | false => rfl
          | true =>
            have h1 := (sb_bit (by omega)).mp e m (by rw [tb_ad hk]; simp)
            rw [Nat.testBit_lt_two_pow z] at h1
            cases h1
        unfold bnT
        rw [this]
        rfl)
      rw [e1, ih lv z, fb_sm_const]
      omega
    · obtain ⟨l, rfl⟩ : ∃ l, lv = 2 ^ m + l := ⟨lv - 2 ^ m, by omega⟩
      have hl : l < 2 ^ m := by omega
      have pl := pc_add m (by omega) l (by omega) hl
      have lm : l.testBit m = false := Nat.testBit_lt_two_pow hl
      have e1 : fb_sm (bnT p q (2 ^ m + l)) (2 ^ m) = fb_sm (fun k => p * bnT p q l k) (2 ^ m) := fb_sm_cong (fun k hk => by
        have km : k.testBit m = false := Nat.testBit_lt_two_pow hk
        have es : sbN k (2 ^ m + l) = sbN k l := sb_eq (by omega) (by omega) ⟨fun g i hi => by
          have := g i hi
          rw [tb_ad hl] at this
          by_cases c : m = i
          · subst c; rw [km] at hi; cases hi
          · simpa [c] using this, fun g i hi => by rw [tb_ad hl, g i hi]; simp⟩
        unfold bnT
        rw [es, pl]
        cases e : sbN k l with
        | false => rfl
        | true =>
          have hle : pcN k ≤ pcN l := pc_mono ((sb_bit (by omega)).mp e)
          rw [if_pos rfl, if_pos rfl, show pcN l + 1 - pcN k = (pcN l - pcN k) + 1 by omega, Nat.pow_succ, Nat.mul_comm (p ^ _) p, Nat.mul_left_comm])
      have e2 : fb_sm (fun k => bnT p q (2 ^ m + l) (2 ^ m + k)) (2 ^ m) = fb_sm (fun k => q * bnT p q l k) (2 ^ m) := fb_sm_cong (fun k hk => by
        have km : k.testBit m = false := Nat.testBit_lt_two_pow hk
        have es : sbN (2 ^ m + k) (2 ^ m + l) = sbN k l := sb_eq (by omega) (by omega) ⟨fun g i hi => by
          have := g i (by rw [tb_ad hk, hi]; simp)
          rw [tb_ad hl] at this
          by_cases c : m = i
          · subst c; rw [km] at hi; cases hi
          · simpa [c] using this, fun g i hi => by
          rw [tb_ad hk] at hi
          rw [tb_ad hl]
          by_cases c : m = i
          · simp [c]
          · simp [c] at hi ⊢
            exact g i hi⟩
        unfold bnT
        rw [es, pl, pc_add m (by omega) k (by omega) hk]
        cases e : sbN k l with
        | false => rfl
        | true => rw [if_pos rfl, if_pos rfl, show pcN l + 1 - (pcN k + 1) = pcN l - pcN k by omega, Nat.pow_succ, Nat.mul_comm (q ^ _) q, Nat.mul_assoc])
      rw [e1, e2, sm_mul, sm_mul, ih l hl, ← Nat.add_mul, hpq, pl, Nat.pow_succ, Nat.mul_comm]
theorem x_power : ∀ b, b < 11 → ∀ e, e < 9 → f_X6_power (nI b) (nI e) = some (nI (b ^ e)) := by decide +kernel
theorem m_power : ∀ b, b < 11 → ∀ e, e < 9 → f_X7_power (nI b) (nI e) = some (nI (b ^ e)) := by decide +kernel
section CH
variable {P wt : Nat → Nat} {plan tb sp po wa ac bL W pg : Nat → Int32} {hu de st : Nat}
noncomputable def chS (P wt : Nat → Nat) (st lv p j : Nat) : Nat := if alS P wt st j then bnT p (10 - p) lv j else 0
theorem x_weight (h : plI P plan) {V : Nat → Int32} (hV : ∀ set, set < 2 ^ P 11 → V set = nI (svS P wt set st)) {lv p : Nat} (hlv : lv < 2 ^ P 11) (hp : p ≤ 10) : f_X4_weightThatServes V (nI (P 11)) (nI (P 12)) (nI lv) (nI p) = some (nI (fb_sm (chS P wt st lv p) (2 ^ P 11))) := by
  obtain ⟨h0, h8, h6, h5⟩ := id h
  have hp2 := pw_le h8
  unfold f_X4_weightThatServes
  have key := lp_up1 (fun n2 y i => lp_X4_weightThatServes_5 V (nI (P 11)) (nI (P 12)) (nI lv) (nI p) n2 y i) (fun k => nI (fb_sm (chS P wt st lv p) k)) (2 ^ P 11) (some (nI (fb_sm (chS P wt st lv p) (2 ^ P 11)))) (fun n2 => ?_) (fun n2 j hj => ?_) 1000 0 (Nat.zero_le _) (by omega)
  · exact key
  · rw [le_X4_weightThatServes_5]
    unfold bk_X4_weightThatServes_5
    rw [x_setCount _ (by omega), Option.bind_some, if_pos (nI_le (Nat.le_refl _) (by omega))]
  · rw [le_X4_weightThatServes_5]
    unfold bk_X4_weightThatServes_5
    rw [x_setCount _ (by omega), Option.bind_some, if_neg (nI_ge hj (by omega)), fb_sm_succ, x_servesAll h hV hj]
    simp only [sb_I (show j < 256 by omega), nm_, nI_1, Option.bind_some, kz_b01]
    unfold chS bnT
    cases e1 : sbN j lv with
    | false => rw [if_neg (by decide)]; simp
    | true =>
      rw [if_pos rfl]
      cases e2 : alS P wt st j with
      | false => rfl
      | true =>
        have hle : pcN j ≤ pcN lv := pc_mono ((sb_bit (by omega)).mp e1)
        have h3 := pcN_le lv
        rw [if_neg (by decide), x_bitCount j (by omega), x_bitCount lv (by omega)]
        simp only [Option.bind_some]
        rw [show (10 : Int32) - nI p = nI (10 - p) from pk_sub (a := 10) hp, x_power _ (by omega) _ (by omega), pk_sub hle, x_power _ (by omega) _ (by omega)]
        simp only [Option.bind_some]
        rw [pk_mul, nI_add]
        rfl
theorem m_chance_lp (h : plI P plan) (hW : ∀ p, p < 6 → pg (3 + p) = nI (wt p)) (hw : ∀ p, p < 6 → wt p ≤ 99) (g2 : pg 2 = nI st) (hst : st < 2 ^ 31) {lv p : Nat} (hlv : lv < 2 ^ P 11) (hp : p ≤ 10) (w : Int32) : lp_X7_chance_40 0 plan pg (nI p) w (nI lv) (nI (pcN lv)) 1000 0 0 = bk_X7_chance_105 0 w (nI (pcN lv)) (nI (fb_sm (chS P wt st lv p) (2 ^ P 11))) := by
  obtain ⟨h0, h8, h6, h5⟩ := id h
  have hp2 := pw_le h8
  have key := lp_up1 (fun n2 y i => lp_X7_chance_40 0 plan pg (nI p) w (nI lv) (nI (pcN lv)) n2 y i) (fun k => nI (fb_sm (chS P wt st lv p) k)) (2 ^ P 11) (bk_X7_chance_105 0 w (nI (pcN lv)) (nI (fb_sm (chS P wt st lv p) (2 ^ P 11)))) (fun n2 => ?_) (fun n2 j hj => ?_) 1000 0 (Nat.zero_le _) (by omega)
  · exact key
  · rw [le_X7_chance_40]
    unfold bk_X7_chance_40 f_X7_spots
    rw [show Int32.toNatClampNeg 11 = 11 from rfl, (h0 11 (by omega)).1, Option.bind_some, m_pow _ (by omega), if_pos (nI_le (Nat.le_refl _) (by omega))]
  · rw [le_X7_chance_40]
    unfold bk_X7_chance_40 f_X7_spots
    rw [show Int32.toNatClampNeg 11 = 11 from rfl, (h0 11 (by omega)).1, Option.bind_some, m_pow _ (by omega), if_neg (nI_ge hj (by omega)), fb_sm_succ, m_serves h hW hw g2 hst (by omega)]
    simp only [sb_I (show j < 256 by omega), nm_, nI_1, Option.bind_some, kz_b01]
    unfold chS bnT
    cases e1 : sbN j lv with
    | false => rw [if_neg (by decide)]; simp
    | true =>
      rw [if_pos rfl]
      cases e2 : alS P wt st j with
      | false => rfl
      | true =>
        have hle : pcN j ≤ pcN lv := pc_mono ((sb_bit (by omega)).mp e1)
        have h3 := pcN_le lv
        rw [if_neg (by decide), m_ones j (by omega)]
        simp only [Option.bind_some]
        rw [show (10 : Int32) - nI p = nI (10 - p) from pk_sub (a := 10) hp, m_power _ (by omega) _ (by omega), pk_sub hle, m_power _ (by omega) _ (by omega)]
        simp only [Option.bind_some]
        rw [pk_mul, nI_add]
        rfl
theorem c_chance (h : plI P plan) (hr : raI P ac bL) (hv : vaI P hu de st wt) (hW : wtI wt W) (hg : pgI hu de st wt pg) (V S : Nat → Int32) (th p1 p2 : Int32) : ∃ r V' S', f_X6_chance (nI (P 10)) (nI (P 11)) (nI (P 12)) ac bL (nI hu) (nI de) (nI st) W V S p1 p2 = some (r, V', S') ∧ f_X7_chance th plan pg p1 p2 = some (r, 0) := by
  obtain ⟨h0, h8, h6, h5⟩ := id h
  have hp2 := pw_le h8
  have hp3 := pw_le (n := P 13) (by omega)
  obtain ⟨v1, v2, v3, v4, v5⟩ := id hv
  obtain ⟨g0, g1, g2, g3⟩ := id hg
  have hll := lvN_le hu de
  unfold f_X6_chance f_X7_chance
  rw [m_in32 p1 0 10 (a' := 0) (b' := 10) rfl rfl, Option.bind_some]
  simp only [kz_b01i]
  rcases pk_ix p1 (n := 11) (by omega) with q | q | ⟨p, hp, rfl⟩
  · rw [if_pos q, if_pos (fun z => by have := (fa_le _ _).mp z.1; rw [fa_lt] at q; omega)]
    exact ⟨_, _, _, rfl, rfl⟩
  · have c2 : ¬ p1 ≤ 10 := by rw [fa_le] at *; rw [nI_toInt (by omega)] at q; have : (10 : Int32).toInt = 10 := rfl; omega
    have c1 : ¬ p1 < 0 := by rw [fa_le] at *; rw [fa_lt]; rw [nI_toInt (by omega)] at q; have : (0 : Int32).toInt = 0 := rfl; omega
    rw [if_neg c1, if_neg c2, if_pos (fun z => c2 z.2)]
    exact ⟨_, _, _, rfl, rfl⟩
  · have c2 : nI p ≤ (10 : Int32) := nI_le (b := 10) (by omega) (by omega)
    have c1 : (0 : Int32) ≤ nI p := nI_le (a := 0) (by omega) (by omega)
    obtain ⟨V', S', ew, hV⟩ := x_weigh h hr hW v5 (show st < 256 by omega) V S
    have hbs := bn_sum (p := p) (q := 10 - p) (by omega) (P 11) h8 (lvN hu de) (by omega)
    have hle : fb_sm (chS P wt st (lvN hu de) p) (2 ^ P 11) ≤ fb_sm (bnT p (10 - p) (lvN hu de)) (2 ^ P 11) := fb_sm_le (fun k hk => by unfold chS; split <;> omega)
    have hn8 := pcN_le (lvN hu de)
    have h10 : 10 ^ pcN (lvN hu de) ≤ 10 ^ 8 := Nat.pow_le_pow_right (by omega) hn8
    have h10p : 0 < 10 ^ pcN (lvN hu de) := Nat.pow_pos (by omega)
    have h108 : (10 : Nat) ^ 8 = 100000000 := by decide
    rw [if_neg (nI_pos (by omega)), if_pos c2, if_neg (fun z => z ⟨c1, c2⟩), ew, m_live (by omega) g0 g1, Option.bind_some, Option.bind_some, m_ones _ (by omega), Option.bind_some, m_chance_lp h g3 v5 g2 (by omega) (by omega) (by omega)]
    unfold bk_X7_chance_105
    rw [show f_X7_power 10 (nI (pcN (lvN hu de))) = some (nI (10 ^ pcN (lvN hu de))) from m_power 10 (by omega) _ (by omega), Option.bind_some, m_fraction (by omega) (by omega) h10p, Option.bind_some, un2E, x_live (by omega), Option.bind_some, x_bitCount _ (by omega), Option.bind_some, Option.bind_some, x_weight h hV (by omega) (by omega), Option.bind_some, show f_X6_power 10 (nI (pcN (lvN hu de))) = some (nI (10 ^ pcN (lvN hu de))) from x_power 10 (by omega) _ (by omega), Option.bind_some, x_told (by omega) (by omega) h10p, Option.bind_some]
    exact ⟨_, _, _, rfl, rfl⟩
end CH
