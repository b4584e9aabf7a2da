/-! SHARES -/
def fct : Nat → Nat
  | 0 => 1
  | n + 1 => fct n * (n + 1)
theorem x_fac : ∀ k, k < 9 → f_X6_factorial (nI k) = some (nI (fct k)) := by decide +kernel
theorem m_fac : ∀ k, k < 9 → f_X7_factorial (nI k) = some (nI (fct k)) := by decide +kernel
theorem fct_pos : ∀ k, k < 9 → 0 < fct k ∧ fct k ≤ 40320 := by decide +kernel
theorem fct_pr : ∀ n, n < 8 → ∀ k, k < n + 1 → fct k * fct (n - k) ≤ 5040 := by decide +kernel
/-- a set within another -/
def sbN (j lv : Nat) : Bool := decide (j &&& (255 ^^^ lv) = 0)
theorem sb_bit {j lv : Nat} (hj : j < 256) : sbN j lv = true ↔ ∀ i, j.testBit i = true → lv.testBit i = true := by
  unfold sbN
  rw [decide_eq_true_eq]
  have h2 : ∀ i, (255 : Nat).testBit i = decide (i < 8) := fun i => by
    have := Nat.testBit_two_pow_sub_one 8 i
    simpa using this
  constructor
  · intro h i hi
    have h1 : (j &&& (255 ^^^ lv)).testBit i = false := by rw [h]; exact Nat.zero_testBit i
    rw [Nat.testBit_and, Nat.testBit_xor, h2, hi] at h1
    have h8 : i < 8 := by
      rcases Nat.lt_or_ge i 8 with z | z
      · exact z
      · have : j.testBit i = false := Nat.testBit_lt_two_pow (Nat.lt_of_lt_of_le hj (by
          calc 256 = 2 ^ 8 := by decide
            _ ≤ 2 ^ i := Nat.pow_le_pow_right (by decide) z))
        rw [this] at hi
        cases hi
    simpa [h8] using h1
  · intro h
    apply Nat.eq_of_testBit_eq
    intro i
    rw [Nat.testBit_and, Nat.testBit_xor, h2, Nat.zero_testBit]
    cases e : j.testBit i with
    | false => rfl
    | true =>
      rw [h i e]
      have h8 : i < 8 := by
        rcases Nat.lt_or_ge i 8 with z | z
        · exact z
        · have : j.testBit i = false := Nat.testBit_lt_two_pow (Nat.lt_of_lt_of_le hj (by
            calc 256 = 2 ^ 8 := by decide
              _ ≤ 2 ^ i := Nat.pow_le_pow_right (by decide) z))
          rw [this] at e
          cases e
      simp [h8]
theorem sb_I {j lv : Nat} (hj : j < 256) : (nI j &&& (nI lv ^^^ (-1 : Int32)) = 0) = (sbN j lv = true) := by
  rw [kb_andn hj]
  unfold sbN
  have : j &&& (255 ^^^ lv) ≤ j := Nat.and_le_left
  rw [show (0 : Int32) = nI 0 from rfl, kz_eq (by omega) (by omega), decide_eq_true_eq]
theorem pc_mono {a b : Nat} (h : ∀ i, a.testBit i = true → b.testBit i = true) : pcN a ≤ pcN b := by
  have f : ∀ i, a / 2 ^ i % 2 ≤ b / 2 ^ i % 2 := fun i => by
    rw [kb_tb, kb_tb]
    cases e : a.testBit i with
    | false => simp
    | true => rw [h i e]; simp
  have f0 := f 0
  have f1 := f 1
  have f2 := f 2
  have f3 := f 3
  have f4 := f 4
  have f5 := f 5
  have f6 := f 6
  have f7 := f 7
  simp only [show (2 : Nat) ^ 0 = 1 from rfl, show (2 : Nat) ^ 1 = 2 from rfl, show (2 : Nat) ^ 2 = 4 from rfl, show (2 : Nat) ^ 3 = 8 from rfl, show (2 : Nat) ^ 4 = 16 from rfl, show (2 : Nat) ^ 5 = 32 from rfl, show (2 : Nat) ^ 6 = 64 from rfl, show (2 : Nat) ^ 7 = 128 from rfl, Nat.div_one] at f0 f1 f2 f3 f4 f5 f6 f7
  unfold pcN
  omega
theorem pc_clr : ∀ j, j < 256 → ∀ b, b < 8 → j.testBit b = true → pcN j = pcN (clr j b) + 1 ∧ clr j b ||| 2 ^ b = j ∧ (clr j b).testBit b = false := by decide +kernel
theorem pc_or : ∀ j, j < 256 → ∀ b, b < 8 → j.testBit b = false → pcN (j ||| 2 ^ b) = pcN j + 1 := by decide +kernel
theorem ad_or {m k : Nat} (h : k < 2 ^ m) : 2 ^ m + k = 2 ^ m ||| k := by
  have := Nat.two_pow_add_eq_or_of_lt h 1
  rw [Nat.mul_one] at this
  exact this
/-- sums over the sets with a spot, and over those without -/
theorem sm_re : ∀ (m : Nat) (g : Nat → Nat) (b : Nat), b < m → fb_sm (fun j => if j.testBit b then g (j ^^^ 2 ^ b) else 0) (2 ^ m) = fb_sm (fun j => if j.testBit b then 0 else g j) (2 ^ m)
  | 0, g, b, h => by omega
  | m + 1, g, b, h => by
    rw [Nat.pow_succ, Nat.mul_two, fb_sm_split, fb_sm_split]
    rcases Nat.lt_or_ge b m with z | z
    · have e1 : fb_sm (fun k => if (2 ^ m + k).testBit b then g ((2 ^ m + k) ^^^ 2 ^ b) else 0) (2 ^ m) = fb_sm (fun k => if k.testBit b then (fun i => g (2 ^ m + i)) (k ^^^ 2 ^ b) else 0) (2 ^ m) := fb_sm_cong (fun k hk => by
        rw [Nat.testBit_two_pow_add_gt z]
        have : (2 ^ m + k) ^^^ 2 ^ b = 2 ^ m + (k ^^^ 2 ^ b) := by
          rw [ad_or hk, ad_or (xor_lt hk z)]
          apply Nat.eq_of_testBit_eq
          intro i
          rw [Nat.testBit_xor, Nat.testBit_or, Nat.testBit_or, Nat.testBit_xor, Nat.testBit_two_pow, Nat.testBit_two_pow]
          by_cases q : b = i
          · subst q
            have : ¬ m = b := by omega
            simp [this]
          · simp [q]
        rw [this])
      have e2 : fb_sm (fun k => if (2 ^ m + k).testBit b then 0 else g (2 ^ m + k)) (2 ^ m) = fb_sm (fun k => if k.testBit b then 0 else (fun i => g (2 ^ m + i)) k) (2 ^ m) := fb_sm_cong (fun k hk => by rw [Nat.testBit_two_pow_add_gt z])
      rw [e1, e2, sm_re m g b z, sm_re m (fun i => g (2 ^ m + i)) b z]
    · have : b = m := by omega
      subst this
      have e1 : fb_sm (fun j => if j.testBit b then g (j ^^^ 2 ^ b) else 0) (2 ^ b) = fb_sm (fun _ => 0) (2 ^ b) := fb_sm_cong (fun k hk => by rw [Nat.testBit_lt_two_pow hk]; rfl)
      have e2 : fb_sm (fun k => if (2 ^ b + k).testBit b then 0 else g (2 ^ b + k)) (2 ^ b) = fb_sm (fun _ => 0) (2 ^ b) := fb_sm_cong (fun k hk => by rw [Nat.testBit_two_pow_add_eq, Nat.testBit_lt_two_pow hk]; rfl)
      have e3 : fb_sm (fun k => if (2 ^ b + k).testBit b then g ((2 ^ b + k) ^^^ 2 ^ b) else 0) (2 ^ b) = fb_sm (fun k => g k) (2 ^ b) := fb_sm_cong (fun k hk => by
        rw [Nat.testBit_two_pow_add_eq, Nat.testBit_lt_two_pow hk]
        have : (2 ^ b + k) ^^^ 2 ^ b = k := by
          rw [ad_or hk]
          apply Nat.eq_of_testBit_eq
          intro i
          rw [Nat.testBit_xor, Nat.testBit_or, Nat.testBit_two_pow]
          by_cases q : b = i
          · subst q
            rw [Nat.testBit_lt_two_pow hk]
            simp
          · simp [q]
        rw [this]
        rfl)
      have e4 : fb_sm (fun j => if j.testBit b then 0 else g j) (2 ^ b) = fb_sm (fun k => g k) (2 ^ b) := fb_sm_cong (fun k hk => by rw [Nat.testBit_lt_two_pow hk]; rfl)
      rw [e1, e2, e3, e4, fb_sm_const]
      omega
theorem nmE {α β : Type} (a : α) (f : α → β) : nm_ a f = f a := rfl
theorem un2E {α β γ : Type} (a : α) (b : β) (f : α → β → γ) : un2 (a, b) f = f a b := rfl
theorem un3E {α β γ δ : Type} (a : α) (b : β) (c : γ) (f : α → β → γ → δ) : un3 (a, b, c) f = f a b c := rfl
theorem un4E {α β γ δ ε : Type} (a : α) (b : β) (c : γ) (d : δ) (f : α → β → γ → δ → ε) : un4 (a, b, c, d) f = f a b c d := rfl
section SH
variable {P wt : Nat → Nat} {plan tb sp po wa ac bL W pg : Nat → Int32} {hu de st : Nat}
theorem sm_mono (h : plI P plan) {a b st p : Nat} (hs : ∀ i, a.testBit i = true → b.testBit i = true) : smS P a st p ≤ smS P b st p := by
  unfold smS
  have : fb_sm (fun s => if a.testBit s then ltS P st s p else 0) (P 11) ≤ fb_sm (fun s => if b.testBit s then ltS P st s p else 0) (P 11) := fb_sm_le (fun k hk => by
    cases e : a.testBit k with
    | false => simp
    | true => rw [hs k e]; simp)
  omega
theorem sv_mono (h : plI P plan) {a b st : Nat} (hs : ∀ i, a.testBit i = true → b.testBit i = true) : pcN (svS P wt a st) ≤ pcN (svS P wt b st) := by
  apply pc_mono
  intro i hi
  unfold svS at *
  rw [mkb_bit] at *
  simp only [Bool.and_eq_true, decide_eq_true_eq] at *
  have := sm_mono h (st := st) (p := i) hs
  exact ⟨hi.1, by omega⟩
/-- what a spot adds to a set, in all orders -/
noncomputable def gnS (P wt : Nat → Nat) (st lv b j : Nat) : Nat := if sbN j lv then fct (pcN j) * fct (pcN lv - 1 - pcN j) * (pcN (svS P wt (j ||| 2 ^ b) st) - pcN (svS P wt j st)) else 0
theorem gn_le (h : plI P plan) {lv b j : Nat} (hlv : lv < 256) (hj : j < 256) (hb : b < 8) (hl : lv.testBit b = true) (hjb : j.testBit b = false) : gnS P wt st lv b j ≤ 40320 := by
  unfold gnS
  cases e : sbN j lv with
  | false => simp
  | true =>
    have h1 := (sb_bit hj).mp e
    have h2 : pcN (j ||| 2 ^ b) ≤ pcN lv := pc_mono (fun i hi => by
      rw [Nat.testBit_or, Nat.testBit_two_pow] at hi
      by_cases q : b = i
      · rw [← q]; exact hl
      · exact h1 i (by simpa [q] using hi))
    rw [pc_or j hj b hb hjb] at h2
    have h3 := pcN_le lv
    have h4 := fct_pr (pcN lv - 1) (by omega) (pcN j) (by omega)
    have h5 := pcN_le (svS P wt (j ||| 2 ^ b) st)
    rw [if_pos rfl]
    calc fct (pcN j) * fct (pcN lv - 1 - pcN j) * (pcN (svS P wt (j ||| 2 ^ b) st) - pcN (svS P wt j st)) ≤ 5040 * 8 := Nat.mul_le_mul h4 (by omega)
      _ = 40320 := by decide
theorem x_gain (h : plI P plan) {V : Nat → Int32} (hV : ∀ set, set < 2 ^ P 11 → V set = nI (svS P wt set st)) {lv b : Nat} (hlv : lv < 2 ^ P 11) (hb : b < P 11) (hl : lv.testBit b = true) : f_X4_gainInAllOrders V (nI (P 11)) (nI b) (nI lv) = some (nI (fb_sm (fun j => if j.testBit b then gnS P wt st lv b (j ^^^ 2 ^ b) else 0) (2 ^ P 11))) := by
  obtain ⟨h0, h8, h6, h5⟩ := id h
  have hp2 := pw_le h8
  have hn0 : 1 ≤ pcN lv := by have := (pc_clr lv (by omega) b (by omega) hl).1; omega
  unfold f_X4_gainInAllOrders
  rw [nmE, kb_bit b (by omega), x_bitCount lv (by omega), show (1 : Int32) = nI 1 from rfl, Option.bind_some, nmE, pk_sub hn0]
  have key := lp_up1 (fun n2 y i => lp_X4_gainInAllOrders_18 V (nI (P 11)) (nI lv) (nI (2 ^ b)) (nI (pcN lv - 1)) n2 y i) (fun k => nI (fb_sm (fun j => if j.testBit b then gnS P wt st lv b (j ^^^ 2 ^ b) else 0) k)) (2 ^ P 11) (some (nI (fb_sm (fun j => if j.testBit b then gnS P wt st lv b (j ^^^ 2 ^ b) else 0) (2 ^ P 11)))) (fun n2 => ?_) (fun n2 j hj => ?_) 1000 0 (Nat.zero_le _) (by omega)
  · exact key
  · rw [le_X4_gainInAllOrders_18]
    unfold bk_X4_gainInAllOrders_18
    rw [x_setCount _ (by omega), Option.bind_some, if_pos (nI_le (Nat.le_refl _) (by omega))]
  · rw [le_X4_gainInAllOrders_18]
    unfold bk_X4_gainInAllOrders_18
    rw [x_setCount _ (by omega), Option.bind_some, if_neg (nI_ge hj (by omega)), fb_sm_succ]
    have e0 : (nI j &&& nI (2 ^ b) = 0) = (j.testBit b = false) := propext (fa_bit (by omega))
    simp only [sb_I (show j < 256 by omega), e0, nm_, nI_1]
    cases e1 : sbN j lv with
    | false =>
      rw [if_neg (by decide)]
      cases e2 : j.testBit b with
      | false => rfl
      | true =>
        have hx : gnS P wt st lv b (j ^^^ 2 ^ b) = 0 := by
          have e3 : sbN (j ^^^ 2 ^ b) lv = false := by
            cases e4 : sbN (j ^^^ 2 ^ b) lv with
            | false => rfl
            | true =>
              exfalso
              have h1 := (sb_bit (show j ^^^ 2 ^ b < 256 from xor_lt (n := 8) (by omega) (by omega))).mp e4
              have : sbN j lv = true := (sb_bit (by omega)).mpr (fun i hi => by
                by_cases q : b = i
                · rw [← q]; exact hl
                · apply h1
                  rw [Nat.testBit_xor, Nat.testBit_two_pow, hi]
                  simp [q])
              rw [this] at e1
              cases e1
          unfold gnS
          rw [e3]
          rfl
        rw [hx]
        rfl
    | true =>
      rw [if_pos rfl]
      cases e2 : j.testBit b with
      | false => rfl
      | true =>
        obtain ⟨q1, q2, q3⟩ := pc_clr j (by omega) b (by omega) e2
        have ec : clr j b = j ^^^ 2 ^ b := tb_clr j (by omega) b (by omega) e2
        have hcl := clr_le j b
        have h1 := (sb_bit (show j < 256 by omega)).mp e1
        have h2 : pcN j ≤ pcN lv := pc_mono h1
        have h3 := pcN_le lv
        have v1 := svS_lt (wt := wt) h j st
        have v2 := svS_lt (wt := wt) h (clr j b) st
        have hm := sv_mono (wt := wt) h (a := clr j b) (b := j) (st := st) (fun i hi => by rw [clr_bit j b i (by omega), Bool.and_eq_true] at hi; exact hi.1)
        rw [if_neg (by decide), x_bitCount j (by omega)]
        simp only [Option.bind_some]
        rw [show nI (pcN j) - 1 = nI (pcN j - 1) from pk_sub (b := 1) (by omega), x_servedBy h hV hj, kb_andn (by omega), show j &&& (255 ^^^ 2 ^ b) = clr j b from rfl, x_servedBy h hV (by omega)]
        simp only [Option.bind_some]
        rw [x_bitCount _ (by omega), x_bitCount _ (by omega)]
        simp only [Option.bind_some]
        rw [pk_sub hm, x_fac _ (by omega), pk_sub (by omega), x_fac _ (by omega)]
        simp only [Option.bind_some]
        rw [pk_mul, pk_mul, nI_add]
        have eg : gnS P wt st lv b (j ^^^ 2 ^ b) = (pcN (svS P wt j st) - pcN (svS P wt (clr j b) st)) * fct (pcN j - 1) * fct (pcN lv - 1 - (pcN j - 1)) := by
          unfold gnS
          have e3 : sbN (clr j b) lv = true := (sb_bit (by omega)).mpr (fun i hi => by rw [clr_bit j b i (by omega), Bool.and_eq_true] at hi; exact h1 i hi.1)
          rw [← ec, e3, if_pos rfl, q2, show pcN (clr j b) = pcN j - 1 by omega, Nat.mul_comm (fct (pcN j - 1) * _) _, Nat.mul_assoc]
        rw [eg]
        rfl
theorem m_many (h : plI P plan) (hW : ∀ p, p < 6 → pg (3 + p) = nI (wt p)) (hw : ∀ p, p < 6 → wt p ≤ 99) (g2 : pg 2 = nI st) (hst : st < 2 ^ 31) {set : Nat} (hs : set < 2 ^ 31) : f_X7_manyBy plan pg (nI set) = some (nI (pcN (svS P wt set st))) := by
  have v1 := svS_lt (wt := wt) h set st
  unfold f_X7_manyBy
  rw [show Int32.toNatClampNeg 2 = 2 from rfl, g2, m_served_page h hW hw hs hst]
  simp only [Option.bind_some]
  rw [m_ones _ (by omega)]
  simp only [Option.bind_some]
theorem m_share_lp (h : plI P plan) (hW : ∀ p, p < 6 → pg (3 + p) = nI (wt p)) (hw : ∀ p, p < 6 → wt p ≤ 99) (g2 : pg 2 = nI st) (hst : st < 2 ^ 31) {lv b : Nat} (hlv : lv < 2 ^ P 11) (hb : b < P 11) (hl : lv.testBit b = true) (w : Int32) : lp_X7_share_46 0 plan pg (nI b) w (nI lv) (nI (pcN lv)) 1000 0 0 = bk_X7_share_127 0 w (nI (pcN lv)) (nI (fb_sm (fun j => if j.testBit b then 0 else gnS P wt st lv b j) (2 ^ P 11))) := by
  obtain ⟨h0, h8, h6, h5⟩ := id h
  have hp2 := pw_le h8
  have hn0 : 1 ≤ pcN lv := by have := (pc_clr lv (by omega) b (by omega) hl).1; omega
  have key := lp_up1 (fun n2 y i => lp_X7_share_46 0 plan pg (nI b) w (nI lv) (nI (pcN lv)) n2 y i) (fun k => nI (fb_sm (fun j => if j.testBit b then 0 else gnS P wt st lv b j) k)) (2 ^ P 11) (bk_X7_share_127 0 w (nI (pcN lv)) (nI (fb_sm (fun j => if j.testBit b then 0 else gnS P wt st lv b j) (2 ^ P 11)))) (fun n2 => ?_) (fun n2 j hj => ?_) 1000 0 (Nat.zero_le _) (by omega)
  · exact key
  · rw [le_X7_share_46]
    unfold bk_X7_share_46 f_X7_spots
    rw [show Int32.toNatClampNeg 11 = 11 from rfl, (h0 11 (by omega)).1, Option.bind_some, m_pow _ (by omega), if_pos (nI_le (Nat.le_refl _) (by omega))]
  · rw [le_X7_share_46]
    unfold bk_X7_share_46 f_X7_spots
    rw [show Int32.toNatClampNeg 11 = 11 from rfl, (h0 11 (by omega)).1, Option.bind_some, m_pow _ (by omega), if_neg (nI_ge hj (by omega)), fb_sm_succ, m_has (by omega) (by omega)]
    simp only [sb_I (show j < 256 by omega), nm_, nI_1, Option.bind_some, kz_b01]
    cases e1 : sbN j lv with
    | false =>
      rw [if_neg (by decide)]
      have hx : gnS P wt st lv b j = 0 := by unfold gnS; rw [e1]; rfl
      rw [hx, ite_self]
      rfl
    | true =>
      rw [if_pos rfl]
      cases e2 : j.testBit b with
      | true => rfl
      | false =>
        have h1 := (sb_bit (show j < 256 by omega)).mp e1
        have h2 : pcN (j ||| 2 ^ b) ≤ pcN lv := pc_mono (fun i hi => by
          rw [Nat.testBit_or, Nat.testBit_two_pow] at hi
          by_cases q : b = i
          · rw [← q]; exact hl
          · exact h1 i (by simpa [q] using hi))
        rw [pc_or j (by omega) b (by omega) e2] at h2
        have h3 := pcN_le lv
        have ho := or_lt8 (a := j) (s := b) (by omega) (by omega)
        have hm := sv_mono (wt := wt) h (a := j) (b := j ||| 2 ^ b) (st := st) (fun i hi => by rw [Nat.testBit_or, hi]; rfl)
        rw [if_pos rfl, m_ones j (by omega)]
        simp only [Option.bind_some]
        rw [m_fac _ (by omega), show (1 : Int32) <<< (nI b &&& 31) = nI (2 ^ b) from kb_bit b (by omega), show nI (pcN lv) - 1 = nI (pcN lv - 1) from pk_sub (b := 1) (by omega), pk_sub (show pcN j ≤ pcN lv - 1 by omega), m_fac _ (by omega), fa_or, m_many h hW hw g2 hst (by omega), m_many h hW hw g2 hst (by omega)]
        simp only [Option.bind_some]
        rw [pk_mul, pk_sub hm, pk_mul, nI_add]
        have eg : gnS P wt st lv b j = fct (pcN j) * fct (pcN lv - 1 - pcN j) * (pcN (svS P wt (j ||| 2 ^ b) st) - pcN (svS P wt j st)) := by unfold gnS; rw [e1, if_pos rfl]
        rw [eg]
        rfl
theorem c_share (h : plI P plan) (hr : raI P ac bL) (hv : vaI P hu de st wt) (hW : wtI wt W) (hg : pgI hu de st wt pg) (V S : Nat → Int32) (th p1 p2 : Int32) : ∃ r V' S', f_X6_share (nI (P 10)) (nI (P 11)) (nI (P 12)) ac bL (nI hu) (nI de) (nI st) W V S p1 p2 = some (r, V', S') ∧ f_X7_share th plan pg p1 p2 = some (r, 0) := by
  obtain ⟨h0, h8, h6, h5⟩ := id h
  have hp2 := pw_le h8
  have hp3 := pw_le (n := P 13) (by omega)
  obtain ⟨v1, v2, v3, v4, v5⟩ := id hv
  obtain ⟨g0, g1, g2, g3⟩ := id hg
  have hll := lvN_le hu de
  unfold f_X6_share f_X7_share
  rw [m_noSpot h, Option.bind_some]
  rcases pk_ix p1 (n := P 11) (by omega) with q | q | ⟨b, hb, rfl⟩
  · have c1 : ¬ (0 ≤ p1 ∧ p1 ≤ nI (P 11) - 1) := fun z => by have := (fa_le _ _).mp z.1; rw [fa_lt] at q; omega
    rw [if_neg c1, if_neg (by decide)]
    unfold f_X1_hasSpot
    rw [if_pos q]
    exact ⟨_, _, _, rfl, rfl⟩
  · have c1 : ¬ (0 ≤ p1 ∧ p1 ≤ nI (P 11) - 1) := fun z => by
      obtain ⟨j, hj, e⟩ := (kz_in1 (by omega) _).mp z
      rw [e, kz_le (by omega) (by omega)] at q
      omega
    rw [if_neg c1, if_neg (by decide)]
    unfold f_X1_hasSpot
    by_cases c2 : p1 < 0
    · rw [if_pos c2]
      exact ⟨_, _, _, rfl, rfl⟩
    · rw [if_neg c2, if_pos q]
      exact ⟨_, _, _, rfl, rfl⟩
  · rw [if_pos ((kz_in1 (by omega) _).mpr ⟨b, hb, rfl⟩), if_pos rfl, x_hasSpot (by omega) (by omega), Option.bind_some, if_pos hb, if_neg (by decide), x_lampAt (by omega) (by omega) (by omega), Option.bind_some, m_live (by omega) g0 g1, Option.bind_some, m_has (by omega) (by omega), Option.bind_some]
    have et : (lvN hu de).testBit b = (hu.testBit b && !de.testBit b) := by
      have h8b : b < 8 := by omega
      unfold lvN
      rw [Nat.testBit_and, Nat.testBit_xor]
      have h2 : (255 : Nat).testBit b = true := by
        have := Nat.testBit_two_pow_sub_one 8 b
        simpa [h8b] using this
      rw [h2]
      simp
    simp only [lm_1, kz_b01]
    rw [← et]
    cases e : (lvN hu de).testBit b with
    | false =>
      rw [if_neg (by decide), if_pos rfl]
      exact ⟨_, _, _, rfl, rfl⟩
    | true =>
      have hn0 : 1 ≤ pcN (lvN hu de) := by have := (pc_clr (lvN hu de) (by omega) b (by omega) e).1; omega
      have hn8 := pcN_le (lvN hu de)
      obtain ⟨V', S', ew, hV⟩ := x_weigh h hr hW v5 (show st < 256 by omega) V S
      have hsum : fb_sm (fun j => if j.testBit b then gnS P wt st (lvN hu de) b (j ^^^ 2 ^ b) else 0) (2 ^ P 11) = fb_sm (fun j => if j.testBit b then 0 else gnS P wt st (lvN hu de) b j) (2 ^ P 11) := sm_re (P 11) _ b hb
      have hbd : fb_sm (fun j => if j.testBit b then 0 else gnS P wt st (lvN hu de) b j) (2 ^ P 11) ≤ 2 ^ P 11 * 40320 := fb_sm_bound (fun k hk => by
        cases e2 : k.testBit b with
        | true => simp
        | false => exact gn_le h (by omega) (by omega) (by omega) e e2)
      have hf := fct_pos (pcN (lvN hu de)) (by omega)
      rw [if_pos rfl, if_neg (by decide), ew, m_ones _ (by omega), Option.bind_some, Option.bind_some, m_share_lp h g3 v5 g2 (by omega) (by omega) hb e]
      unfold bk_X7_share_127
      rw [m_fac _ (by omega), Option.bind_some, m_fraction (by omega) (by omega) hf.1, Option.bind_some]
      rw [un2E, x_live (by omega), Option.bind_some, x_bitCount _ (by omega), Option.bind_some, Option.bind_some, x_gain h hV (by omega) hb e, Option.bind_some, x_fac _ (by omega), Option.bind_some, hsum, x_told (by omega) (by omega) hf.1, Option.bind_some]
      exact ⟨_, _, _, rfl, rfl⟩
end SH
