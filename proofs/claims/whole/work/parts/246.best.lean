/-! THE BEST SETS, THE FLOORS -/
def oI : Option Nat → Int32
  | none => -9
  | some b => nI b
def oR (rk : Nat → Nat) : Option Nat → Int32
  | none => 0
  | some b => nI (rk b)
/-- the first of the least ranks among the first j -/
def bst (cd : Nat → Bool) (rk : Nat → Nat) : Nat → Option Nat
  | 0 => none
  | j + 1 => match bst cd rk j with
    | none => if cd j then some j else none
    | some b => if cd j && decide (rk j < rk b) then some j else some b
theorem bst_lt (cd : Nat → Bool) (rk : Nat → Nat) : ∀ j b, bst cd rk j = some b → b < j
  | 0, b, h => by cases h
  | j + 1, b, h => by
    have ih := bst_lt cd rk j
    unfold bst at h
    cases e : bst cd rk j with
    | none =>
      rw [e] at h
      dsimp only at h
      split at h
      · cases h; omega
      · cases h
    | some c =>
      rw [e] at h
      dsimp only at h
      have := ih c e
      split at h
      · cases h; omega
      · cases h; omega
theorem bst_cong {cd : Nat → Bool} {rk rk' : Nat → Nat} (h : ∀ a b, rk a < rk b ↔ rk' a < rk' b) : ∀ j, bst cd rk j = bst cd rk' j
  | 0 => rfl
  | j + 1 => by
    unfold bst
    rw [bst_cong h j]
    cases bst cd rk' j with
    | none => rfl
    | some b => simp only [h]
/-- the least value among the first j -/
def mnv (cd : Nat → Bool) (v : Nat → Nat) : Nat → Option Nat
  | 0 => none
  | j + 1 => match mnv cd v j with
    | none => if cd j then some (v j) else none
    | some b => if cd j && decide (v j < b) then some (v j) else some b
theorem mnv_le {cd : Nat → Bool} {v : Nat → Nat} {M : Nat} (h : ∀ j, v j ≤ M) : ∀ j b, mnv cd v j = some b → b ≤ M
  | 0, b, e => by cases e
  | j + 1, b, e => by
    have ih := mnv_le (cd := cd) h j
    unfold mnv at e
    cases e2 : mnv cd v j with
    | none =>
      rw [e2] at e
      dsimp only at e
      split at e
      · cases e; exact h j
      · cases e
    | some c =>
      rw [e2] at e
      dsimp only at e
      split at e
      · cases e; exact h j
      · cases e; exact ih _ e2
def clr (set s : Nat) : Nat := set &&& (255 ^^^ 2 ^ s)
theorem clr_le (set s : Nat) : clr set s ≤ set := Nat.and_le_left
/-- serves without any one of the first s spots -/
noncomputable def woS (P wt : Nat → Nat) (st set : Nat) : Nat → Bool
  | 0 => true
  | s + 1 => woS P wt st set s && (!set.testBit s || alS P wt st (clr set s))
theorem woS_mono {P wt : Nat → Nat} {st set : Nat} : ∀ {n s : Nat}, s ≤ n → woS P wt st set n = true → woS P wt st set s = true
  | 0, s, h, e => by rw [show s = 0 by omega]; exact e
  | n + 1, s, h, e => by
    rcases Nat.lt_or_ge s (n + 1) with q | q
    · unfold woS at e
      rw [Bool.and_eq_true] at e
      exact woS_mono (by omega) e.1
    · rw [show s = n + 1 by omega]; exact e
section BE
variable {P wt : Nat → Nat} {plan tb sp po wa ac bL W pg : Nat → Int32}
theorem x_wo (h : plI P plan) {V : Nat → Int32} {st : Nat} (hV : ∀ set, set < 2 ^ P 11 → V set = nI (svS P wt set st)) {set : Nat} (hs : set < 2 ^ P 11) : f_X4_servesWithoutAnyOne V (nI (P 11)) (nI (P 12)) (nI set) = some (if woS P wt st set (P 11) then 1 else 0) := by
  obtain ⟨h0, h8, h6, h5⟩ := id h
  have hp2 := pw_le h8
  unfold f_X4_servesWithoutAnyOne
  have key : ∀ n2 s, s ≤ P 11 → woS P wt st set s = true → P 11 - s < n2 → lp_X4_servesWithoutAnyOne_2 V (nI (P 11)) (nI (P 12)) (nI set) n2 (nI s) = some (if woS P wt st set (P 11) then 1 else 0) := by
    intro n2
    induction n2 with
    | zero => intro s _ _ hf; omega
    | succ n2 ih =>
      intro s hs1 hw hf
      rw [le_X4_servesWithoutAnyOne_2]
      unfold bk_X4_servesWithoutAnyOne_2
      rcases Nat.lt_or_ge s (P 11) with q | q
      · rw [if_neg (nI_ge q (by omega)), kb_bit s (by omega), kb_andn (by omega), show set &&& (255 ^^^ 2 ^ s) = clr set s from rfl, x_servesAll h hV (Nat.lt_of_le_of_lt (clr_le set s) hs)]
        simp only [kb_has0 (show set < 2 ^ 31 by omega) (show s < 32 by omega), Option.bind_some, kz_b01, nm_, nI_1]
        have es : woS P wt st set (s + 1) = (woS P wt st set s && (!set.testBit s || alS P wt st (clr set s))) := rfl
        rw [hw, Bool.true_and] at es
        cases hb : set.testBit s with
        | false =>
          rw [hb] at es
          simp only [if_true]
          exact ih (s + 1) q es (by omega)
        | true =>
          rw [hb] at es
          cases ha : alS P wt st (clr set s) with
          | false =>
            rw [ha] at es
            have : woS P wt st set (P 11) = false := by
              cases e : woS P wt st set (P 11) with
              | false => rfl
              | true => rw [woS_mono (show s + 1 ≤ P 11 by omega) e] at es; cases es
            rw [this]
            simp
          | true =>
            rw [ha] at es
            simp only [if_neg (show ¬ (true = false) by decide)]
            exact ih (s + 1) q es (by omega)
      · have : s = P 11 := by omega
        subst this
        rw [if_pos (nI_le (Nat.le_refl _) (by omega)), hw]
        rfl
  exact key 1000 0 (Nat.zero_le _) rfl (by omega)
theorem m_isSafe_x (h : plI P plan) {st set : Nat} (n2 : Nat) : lp_X7_isSafe_8 plan pg (nI set) (n2 + 1) (if (woS P wt st set (P 11) && alS P wt st set) then (1 : Int32) else 0) (nI (P 11)) = some (if (woS P wt st set (P 11) && alS P wt st set) then 1 else 0) := by
  obtain ⟨h0, h8, h6, h5⟩ := id h
  rw [le_X7_isSafe_8]
  unfold bk_X7_isSafe_8 f_X7_spots
  rw [show Int32.toNatClampNeg 11 = 11 from rfl, (h0 11 (by omega)).1]
  simp only [Option.bind_some]
  rw [if_pos (nI_le (Nat.le_refl _) (by omega))]
  cases (woS P wt st set (P 11) && alS P wt st set) <;> rfl
theorem m_isSafe_s (h : plI P plan) (hW : ∀ p, p < 6 → pg (3 + p) = nI (wt p)) (hw : ∀ p, p < 6 → wt p ≤ 99) {st set : Nat} (h2 : pg 2 = nI st) (hst : st < 2 ^ 31) (hs : set < 2 ^ P 11) (n2 s : Nat) (hs2 : s < P 11) : lp_X7_isSafe_8 plan pg (nI set) (n2 + 1) (if (woS P wt st set s && alS P wt st set) then (1 : Int32) else 0) (nI s) = lp_X7_isSafe_8 plan pg (nI set) n2 (if (woS P wt st set (s + 1) && alS P wt st set) then (1 : Int32) else 0) (nI (s + 1)) := by
  obtain ⟨h0, h8, h6, h5⟩ := id h
  have hp2 := pw_le h8
  rw [le_X7_isSafe_8]
  unfold bk_X7_isSafe_8 f_X7_spots
  rw [show Int32.toNatClampNeg 11 = 11 from rfl, (h0 11 (by omega)).1]
  simp only [Option.bind_some]
  have hcl := clr_le set s
  rw [if_neg (nI_ge hs2 (by omega)), m_has (show set < 2 ^ 31 by omega) (by omega), kb_bit s (by omega), kb_andn (by omega), show set &&& (255 ^^^ 2 ^ s) = clr set s from rfl, m_serves h hW hw h2 hst (by omega)]
  simp only [Option.bind_some, kz_b01, nm_, nI_1]
  have es : woS P wt st set (s + 1) = (woS P wt st set s && (!set.testBit s || alS P wt st (clr set s))) := rfl
  rw [es]
  cases alS P wt st set <;> cases woS P wt st set s <;> cases set.testBit s <;> cases alS P wt st (clr set s) <;> simp
theorem woS_0 (P wt : Nat → Nat) (st set : Nat) : woS P wt st set 0 = true := by unfold woS; rfl
theorem m_isSafe_k (h : plI P plan) (hW : ∀ p, p < 6 → pg (3 + p) = nI (wt p)) (hw : ∀ p, p < 6 → wt p ≤ 99) {st set : Nat} (h2 : pg 2 = nI st) (hst : st < 2 ^ 31) (hs : set < 2 ^ P 11) (n : Nat) (hn : P 11 < n) : lp_X7_isSafe_8 plan pg (nI set) n (if alS P wt st set then (1 : Int32) else 0) (nI 0) = some (if (woS P wt st set (P 11) && alS P wt st set) then 1 else 0) := by
  have key := lp_up1 (fun n2 y i => lp_X7_isSafe_8 plan pg (nI set) n2 y i) (fun s => if (woS P wt st set s && alS P wt st set) then (1 : Int32) else 0) (P 11) (some (if (woS P wt st set (P 11) && alS P wt st set) then 1 else 0)) (fun n2 => m_isSafe_x h n2) (fun n2 s hs2 => m_isSafe_s h hW hw h2 hst hs n2 s hs2) n 0 (Nat.zero_le _) (by omega)
  have e1 : (if alS P wt st set then (1 : Int32) else 0) = (if (woS P wt st set 0 && alS P wt st set) then (1 : Int32) else 0) := by rw [woS_0, Bool.true_and]
  rw [e1]
  exact key
theorem m_isSafe (h : plI P plan) (hW : ∀ p, p < 6 → pg (3 + p) = nI (wt p)) (hw : ∀ p, p < 6 → wt p ≤ 99) {st set : Nat} (h2 : pg 2 = nI st) (hst : st < 2 ^ 31) (hs : set < 2 ^ P 11) : f_X7_isSafe plan pg (nI set) = some (if (woS P wt st set (P 11) && alS P wt st set) then 1 else 0) := by
  obtain ⟨h0, h8, h6, h5⟩ := id h
  have hp2 := pw_le h8
  obtain ⟨N, hN, eN⟩ : ∃ N, P 11 < N ∧ N = 1000 := ⟨1000, by omega, rfl⟩
  unfold f_X7_isSafe
  rw [← eN, m_serves h hW hw h2 hst (by omega), Option.bind_some]
  exact m_isSafe_k h hW hw h2 hst hs N hN
/-- the sets that may be chosen -/
noncomputable def cdS (P wt : Nat → Nat) (st how set : Nat) : Bool := if how = 2 then alS P wt st set && woS P wt st set (P 11) else alS P wt st set
def rkC (P : Nat → Nat) (how set : Nat) : Nat := prS P set + (if how = 0 then 100 * pcN set else 0)
def rkM (P : Nat → Nat) (how set : Nat) : Nat := if how = 0 then 1000 * pcN set + prS P set else prS P set
theorem rk_iff (h : plI P plan) (how a b : Nat) : rkC P how a < rkC P how b ↔ rkM P how a < rkM P how b := by
  have h1 := prS_le h a
  have h2 := prS_le h b
  unfold rkC rkM
  split <;> omega
theorem x_choose (h : plI P plan) (h2 : ptI P tb sp po wa) {V : Nat → Int32} {st how : Nat} (hV : ∀ set, set < 2 ^ P 11 → V set = nI (svS P wt set st)) (hh : how ≤ 2) : f_X4_choose V (nI (P 11)) (nI (P 12)) sp (nI how) = some (oI (bst (cdS P wt st how) (rkC P how) (2 ^ P 11))) := by
  obtain ⟨h0, h8, h6, h5⟩ := id h
  have hp2 := pw_le h8
  unfold f_X4_choose
  have key := lp_up2 (fun n2 y z i => lp_X4_choose_8 V (nI (P 11)) (nI (P 12)) sp (nI how) n2 y z i) (fun j => oI (bst (cdS P wt st how) (rkC P how) j)) (fun j => oR (rkC P how) (bst (cdS P wt st how) (rkC P how) j)) (2 ^ P 11) (some (oI (bst (cdS P wt st how) (rkC P how) (2 ^ P 11)))) (fun n2 => ?_) (fun n2 j hj => ?_) 1000 0 (Nat.zero_le _) (by omega)
  · exact key
  · rw [le_X4_choose_8]
    unfold bk_X4_choose_8
    rw [x_setCount _ (by omega)]
    simp only [Option.bind_some]
    rw [if_pos (nI_le (Nat.le_refl _) (by omega))]
  · rw [le_X4_choose_8]
    unfold bk_X4_choose_8 bk_X4_choose_43
    have hr : f_X4_rankOf (nI (P 11)) sp (nI how) (nI j) = some (nI (rkC P how j)) := by
      unfold f_X4_rankOf rkC
      rw [x_price h h2 (by omega), x_bitCount j (by omega)]
      simp only [Option.bind_some]
      by_cases c : how = 0
      · subst c
        rw [if_pos (show nI 0 = (0 : Int32) from rfl), if_pos rfl, show (100 : Int32) = nI 100 from rfl, pk_mul, nI_add]
      · rw [if_neg (nI_ne0 (by omega) (by omega)), if_neg c, show (0 : Int32) = nI 0 from rfl, nI_add]
    have b1 := prS_le h j
    have b2 := pcN_le j
    have b3 : rkC P how j ≤ 1000 := by unfold rkC; split <;> omega
    rw [x_setCount _ (by omega)]
    simp only [Option.bind_some]
    rw [if_neg (nI_ge hj (by omega)), x_servesAll h hV hj, x_wo h hV hj, hr]
    simp only [Option.bind_some, kz_b01, nm_, nI_1]
    have eb : bst (cdS P wt st how) (rkC P how) (j + 1) = match bst (cdS P wt st how) (rkC P how) j with | none => if cdS P wt st how j then some j else none | some b => if cdS P wt st how j && decide (rkC P how j < rkC P how b) then some j else some b := rfl
    rw [eb]
    have ec : cdS P wt st how j = if how = 2 then alS P wt st j && woS P wt st j (P 11) else alS P wt st j := rfl
    rw [ec]
    have e2 : (nI how = (2 : Int32)) = (how = 2) := kz_eq (a := how) (b := 2) (by omega) (by omega)
    simp only [e2]
    cases e3 : bst (cdS P wt st how) (rkC P how) j with
    | none =>
      simp only [oI, oR, if_true]
      by_cases c : how = 2
      · simp only [c, if_true]
        cases alS P wt st j <;> cases woS P wt st j (P 11) <;> simp [oI, oR]
      · simp only [c, if_false]
        cases alS P wt st j <;> simp [oI, oR]
    | some b =>
      have hb := bst_lt _ _ _ _ e3
      have b4 : rkC P how b ≤ 1000 := by
        have b1 := prS_le h b
        have b2 := pcN_le b
        unfold rkC; split <;> omega
      simp only [oI, oR]
      simp (disch := omega) only [kz_m9, if_false, kz_le]
      by_cases c3 : rkC P how b ≤ rkC P how j
      · have c4 : ¬ rkC P how j < rkC P how b := by omega
        by_cases c : how = 2
        · subst c
          simp only [if_true, if_pos c3, decide_eq_false c4, Bool.and_false]
          cases alS P wt st j <;> cases woS P wt st j (P 11) <;> simp
        · simp only [c, if_false, if_pos c3, decide_eq_false c4, Bool.and_false]
          cases alS P wt st j <;> simp
      · have c4 : rkC P how j < rkC P how b := by omega
        by_cases c : how = 2
        · subst c
          simp only [if_true, if_neg c3, decide_eq_true c4, Bool.and_true]
          cases alS P wt st j <;> cases woS P wt st j (P 11) <;> simp
        · simp only [c, if_false, if_neg c3, decide_eq_true c4, Bool.and_true]
          cases alS P wt st j <;> simp
theorem m_pow : ∀ n, n < 9 → (1 : Int32) <<< (nI n &&& 31) = nI (2 ^ n) := by decide +kernel
theorem m_layBest (h : plI P plan) (hW : ∀ p, p < 6 → pg (3 + p) = nI (wt p)) (hw : ∀ p, p < 6 → wt p ≤ 99) {st how : Nat} (h2 : pg 2 = nI st) (hst : st < 2 ^ 31) (hh : how ≤ 2) (b0 : Int32) : f_X7_layBest b0 plan pg (nI how) = some (oI (bst (cdS P wt st how) (rkM P how) (2 ^ P 11))) := by
  obtain ⟨h0, h8, h6, h5⟩ := id h
  have hp2 := pw_le h8
  unfold f_X7_layBest
  have key := lp_up2 (fun n2 y z i => lp_X7_layBest_10 plan pg (nI how) n2 y z i) (fun j => oI (bst (cdS P wt st how) (rkM P how) j)) (fun j => oR (rkM P how) (bst (cdS P wt st how) (rkM P how) j)) (2 ^ P 11) (some (oI (bst (cdS P wt st how) (rkM P how) (2 ^ P 11)))) (fun n2 => ?_) (fun n2 j hj => ?_) 1000 0 (Nat.zero_le _) (by omega)
  · exact key
  · rw [le_X7_layBest_10]
    unfold bk_X7_layBest_10 f_X7_spots
    rw [show Int32.toNatClampNeg 11 = 11 from rfl, (h0 11 (by omega)).1]
    simp only [Option.bind_some]
    rw [m_pow _ (by omega), if_pos (nI_le (Nat.le_refl _) (by omega))]
  · rw [le_X7_layBest_10]
    unfold bk_X7_layBest_10 f_X7_spots
    rw [show Int32.toNatClampNeg 11 = 11 from rfl, (h0 11 (by omega)).1]
    simp only [Option.bind_some]
    rw [m_pow _ (by omega), if_neg (nI_ge hj (by omega)), m_isSafe h hW hw h2 hst hj, m_serves h hW hw h2 hst (by omega)]
    unfold bk_X7_layBest_44
    rw [m_ones j (by omega), m_price h (by omega)]
    have b1 := prS_le h j
    have b2 := pcN_le j
    have b3 : rkM P how j ≤ 10000 := by unfold rkM; split <;> omega
    have eb : bst (cdS P wt st how) (rkM P how) (j + 1) = match bst (cdS P wt st how) (rkM P how) j with | none => if cdS P wt st how j then some j else none | some b => if cdS P wt st how j && decide (rkM P how j < rkM P how b) then some j else some b := rfl
    rw [eb]
    have ec : cdS P wt st how j = if how = 2 then alS P wt st j && woS P wt st j (P 11) else alS P wt st j := rfl
    rw [ec]
    have e2 : (nI how = (2 : Int32)) = (how = 2) := kz_eq (a := how) (b := 2) (by omega) (by omega)
    have e0 : (nI how = (0 : Int32)) = (how = 0) := kz_eq (a := how) (b := 0) (by omega) (by omega)
    have er : (if how = 0 then bk_X7_layBest_70 (fun a b c => lp_X7_layBest_10 plan pg (nI how) n2 a b c) (oI (bst (cdS P wt st how) (rkM P how) j)) plan pg (nI how) (oR (rkM P how) (bst (cdS P wt st how) (rkM P how) j)) (nI j) (1000 * nI (pcN j) + nI (prS P j)) else bk_X7_layBest_70 (fun a b c => lp_X7_layBest_10 plan pg (nI how) n2 a b c) (oI (bst (cdS P wt st how) (rkM P how) j)) plan pg (nI how) (oR (rkM P how) (bst (cdS P wt st how) (rkM P how) j)) (nI j) (nI (prS P j))) = bk_X7_layBest_70 (fun a b c => lp_X7_layBest_10 plan pg (nI how) n2 a b c) (oI (bst (cdS P wt st how) (rkM P how) j)) plan pg (nI how) (oR (rkM P how) (bst (cdS P wt st how) (rkM P how) j)) (nI j) (nI (rkM P how j)) := by
      rw [show (1000 : Int32) = nI 1000 from rfl, pk_mul, nI_add]
      unfold rkM
      split <;> rfl
    simp only [Option.bind_some, kz_b01, e2, e0]
    rw [er]
    unfold bk_X7_layBest_70
    simp only [nm_, nI_1]
    cases e3 : bst (cdS P wt st how) (rkM P how) j with
    | none =>
      simp only [oI, oR, if_true]
      by_cases c : how = 2
      · simp only [c, if_true]
        cases alS P wt st j <;> cases woS P wt st j (P 11) <;> simp [oI, oR]
      · simp only [c, if_false]
        cases alS P wt st j <;> simp [oI, oR]
    | some b =>
      have hb := bst_lt _ _ _ _ e3
      have b4 : rkM P how b ≤ 10000 := by
        have b1 := prS_le h b
        have b2 := pcN_le b
        unfold rkM; split <;> omega
      simp only [oI, oR]
      simp (disch := omega) only [kz_m9, if_false, kz_le]
      by_cases c3 : rkM P how b ≤ rkM P how j
      · have c4 : ¬ rkM P how j < rkM P how b := by omega
        by_cases c : how = 2
        · subst c
          simp only [if_true, if_pos c3, decide_eq_false c4, Bool.and_false]
          cases alS P wt st j <;> cases woS P wt st j (P 11) <;> simp
        · simp only [c, if_false, if_pos c3, decide_eq_false c4, Bool.and_false]
          cases alS P wt st j <;> simp
      · have c4 : rkM P how j < rkM P how b := by omega
        by_cases c : how = 2
        · subst c
          simp only [if_true, if_neg c3, decide_eq_true c4, Bool.and_true]
          cases alS P wt st j <;> cases woS P wt st j (P 11) <;> simp
        · simp only [c, if_false, if_neg c3, decide_eq_true c4, Bool.and_true]
          cases alS P wt st j <;> simp
theorem x_least (h : plI P plan) (h2 : ptI P tb sp po wa) {V : Nat → Int32} {st p : Nat} (hV : ∀ set, set < 2 ^ P 11 → V set = nI (svS P wt set st)) (hp : p < P 12) : f_X4_leastPriceFor V (nI (P 11)) sp (nI p) = some (oI (mnv (fun set => decide (wt p ≤ smS P set st p)) (prS P) (2 ^ P 11))) := by
  obtain ⟨h0, h8, h6, h5⟩ := id h
  have hp2 := pw_le h8
  unfold f_X4_leastPriceFor
  have key := lp_up1 (fun n2 y i => lp_X4_leastPriceFor_5 V (nI (P 11)) sp (nI p) n2 y i) (fun j => oI (mnv (fun set => decide (wt p ≤ smS P set st p)) (prS P) j)) (2 ^ P 11) (some (oI (mnv (fun set => decide (wt p ≤ smS P set st p)) (prS P) (2 ^ P 11)))) (fun n2 => ?_) (fun n2 j hj => ?_) 1000 0 (Nat.zero_le _) (by omega)
  · exact key
  · rw [le_X4_leastPriceFor_5]
    unfold bk_X4_leastPriceFor_5
    rw [x_setCount _ (by omega)]
    simp only [Option.bind_some]
    rw [if_pos (nI_le (Nat.le_refl _) (by omega))]
  · rw [le_X4_leastPriceFor_5]
    unfold bk_X4_leastPriceFor_5
    have hv := svS_lt (wt := wt) h j st
    have hv2 := pw_le (n := P 12) (by omega)
    rw [x_setCount _ (by omega)]
    simp only [Option.bind_some]
    rw [if_neg (nI_ge hj (by omega)), x_servedBy h hV hj, x_price h h2 (by omega)]
    simp only [Option.bind_some, nm_, nI_1, kb_has0 (show svS P wt j st < 2 ^ 31 by omega) (show p < 32 by omega)]
    have et : (svS P wt j st).testBit p = decide (wt p ≤ smS P j st p) := by
      unfold svS
      rw [mkb_bit]
      simp [hp]
    rw [et]
    have eb : mnv (fun set => decide (wt p ≤ smS P set st p)) (prS P) (j + 1) = match mnv (fun set => decide (wt p ≤ smS P set st p)) (prS P) j with | none => if (fun set => decide (wt p ≤ smS P set st p)) j then some (prS P j) else none | some b => if (fun set => decide (wt p ≤ smS P set st p)) j && decide (prS P j < b) then some (prS P j) else some b := rfl
    rw [eb]
    have b1 := prS_le h j
    cases e3 : mnv (fun set => decide (wt p ≤ smS P set st p)) (prS P) j with
    | none =>
      by_cases cc : wt p ≤ smS P j st p <;> simp [oI, cc]
    | some b =>
      have b4 := mnv_le (M := 1000) (fun j => by have := prS_le h j; omega) _ _ e3
      simp only [oI]
      simp (disch := omega) only [kz_m9, if_false, kz_le]
      by_cases c3 : b ≤ prS P j
      · have c4 : ¬ prS P j < b := by omega
        by_cases cc : wt p ≤ smS P j st p <;> simp [cc, c3, c4]
      · have c4 : prS P j < b := by omega
        by_cases cc : wt p ≤ smS P j st p <;> simp [cc, c3, c4]
theorem m_floorOf (h : plI P plan) (hW : ∀ p, p < 6 → pg (3 + p) = nI (wt p)) (hw : ∀ p, p < 6 → wt p ≤ 99) {st p : Nat} (h2 : pg 2 = nI st) (hst : st < 2 ^ 31) (hp : p < P 12) : f_X7_floorOf plan pg (nI p) = some (oI (mnv (fun set => decide (wt p ≤ smS P set st p)) (prS P) (2 ^ P 11))) := by
  obtain ⟨h0, h8, h6, h5⟩ := id h
  have hp2 := pw_le h8
  have hwp := hw p (by omega)
  unfold f_X7_floorOf
  have key := lp_up1 (fun n2 y i => lp_X7_floorOf_5 plan pg (nI p) n2 y i) (fun j => oI (mnv (fun set => decide (wt p ≤ smS P set st p)) (prS P) j)) (2 ^ P 11) (some (oI (mnv (fun set => decide (wt p ≤ smS P set st p)) (prS P) (2 ^ P 11)))) (fun n2 => ?_) (fun n2 j hj => ?_) 1000 0 (Nat.zero_le _) (by omega)
  · exact key
  · rw [le_X7_floorOf_5]
    unfold bk_X7_floorOf_5 f_X7_spots
    rw [show Int32.toNatClampNeg 11 = 11 from rfl, (h0 11 (by omega)).1]
    simp only [Option.bind_some]
    rw [m_pow _ (by omega), if_pos (nI_le (Nat.le_refl _) (by omega))]
  · rw [le_X7_floorOf_5]
    unfold bk_X7_floorOf_5 bk_X7_floorOf_53 f_X7_spots
    have b0 := smS_le h j st p
    rw [show Int32.toNatClampNeg 11 = 11 from rfl, (h0 11 (by omega)).1]
    simp only [Option.bind_some]
    rw [m_pow _ (by omega), if_neg (nI_ge hj (by omega)), show Int32.toNatClampNeg 2 = 2 from rfl, h2, m_sumBy h (by omega) hst hp, m_price h (by omega), show (3 : Int32) = nI 3 from rfl, nI_add]
    simp only [Option.bind_some, nm_, nI_1]
    rw [kz_ix (by omega) (by omega), kz_cl (by omega), hW p (by omega)]
    simp (disch := omega) only [kz_lt]
    have eb : mnv (fun set => decide (wt p ≤ smS P set st p)) (prS P) (j + 1) = match mnv (fun set => decide (wt p ≤ smS P set st p)) (prS P) j with | none => if (fun set => decide (wt p ≤ smS P set st p)) j then some (prS P j) else none | some b => if (fun set => decide (wt p ≤ smS P set st p)) j && decide (prS P j < b) then some (prS P j) else some b := rfl
    rw [eb]
    have b1 := prS_le h j
    by_cases cw : smS P j st p < wt p
    · rw [if_pos cw]
      have : decide (wt p ≤ smS P j st p) = false := decide_eq_false (by omega)
      simp only [this]
      cases mnv (fun set => decide (wt p ≤ smS P set st p)) (prS P) j <;> rfl
    · rw [if_neg cw]
      have : decide (wt p ≤ smS P j st p) = true := decide_eq_true (by omega)
      simp only [this]
      cases e3 : mnv (fun set => decide (wt p ≤ smS P set st p)) (prS P) j with
      | none => simp [oI]
      | some b =>
        have b4 := mnv_le (M := 1000) (fun j => by have := prS_le h j; omega) _ _ e3
        simp only [oI]
        simp (disch := omega) only [kz_m9, if_false, kz_le]
        by_cases c3 : b ≤ prS P j
        · have c4 : ¬ prS P j < b := by omega
          simp [if_pos c3, decide_eq_false c4]
        · have c4 : prS P j < b := by omega
          simp [if_neg c3, decide_eq_true c4]
end BE
