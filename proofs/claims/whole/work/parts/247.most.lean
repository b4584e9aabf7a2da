/-! THE FIRST OF THE GREATEST -/
def oM (rk : Nat → Nat) : Option Nat → Int32
  | none => -1
  | some b => nI (rk b)
def bmx (cd : Nat → Bool) (rk : Nat → Nat) : Nat → Option Nat
  | 0 => none
  | j + 1 => match bmx cd rk j with
    | none => if cd j then some j else none
    | some b => if cd j && decide (rk b < rk j) then some j else some b
theorem bmx_lt (cd : Nat → Bool) (rk : Nat → Nat) : ∀ j b, bmx cd rk j = some b → b < j
  | 0, b, h => by cases h
  | j + 1, b, h => by
    have ih := bmx_lt cd rk j
    unfold bmx at h
    cases e : bmx cd rk j with
    | none =>
      rw [e] at h
      dsimp only at h
      split at h
      · cases h; omega
      · cases h
    | some c =>
      rw [e] at h
      dsimp only at h
      have := ih c e
      split at h
      · cases h; omega
      · cases h; omega
theorem kz_lm1 {a : Nat} (h : a < 2 ^ 31) : (nI a ≤ (-1 : Int32)) = False := by
  have := nz_le (k := 1) h (by omega) (by omega)
  exact this
theorem bmx_c {R : Type} (k : Int32 → Int32 → R) (cd : Nat → Bool) (rk : Nat → Nat) (hr : ∀ j, rk j < 2 ^ 31) (j : Nat) (hj : j < 2 ^ 31) : (if cd j then (if oI (bmx cd rk j) = -9 then k (nI j) (nI (rk j)) else (if nI (rk j) ≤ oR rk (bmx cd rk j) then k (oI (bmx cd rk j)) (oR rk (bmx cd rk j)) else k (nI j) (nI (rk j)))) else k (oI (bmx cd rk j)) (oR rk (bmx cd rk j))) = k (oI (bmx cd rk (j + 1))) (oR rk (bmx cd rk (j + 1))) := by
  have eb : bmx cd rk (j + 1) = match bmx cd rk j with | none => if cd j then some j else none | some b => if cd j && decide (rk b < rk j) then some j else some b := rfl
  rw [eb]
  have r1 := hr j
  cases e3 : bmx cd rk j with
  | none =>
    simp only [oI, oR, if_true]
    cases cd j <;> simp [oI, oR]
  | some b =>
    have hb := bmx_lt _ _ _ _ e3
    have r2 := hr b
    simp only [oI, oR]
    simp (disch := omega) only [kz_m9, if_false, kz_le]
    by_cases c3 : rk j ≤ rk b
    · have c4 : ¬ rk b < rk j := by omega
      simp only [if_pos c3, decide_eq_false c4, Bool.and_false]
      cases cd j <;> simp
    · have c4 : rk b < rk j := by omega
      simp only [if_neg c3, decide_eq_true c4, Bool.and_true]
      cases cd j <;> simp
theorem bmx_m {R : Type} (k : Int32 → Int32 → R) (cd : Nat → Bool) (rk : Nat → Nat) (hr : ∀ j, rk j < 2 ^ 31) (j : Nat) : (if cd j then (if nI (rk j) ≤ oM rk (bmx cd rk j) then k (oI (bmx cd rk j)) (oM rk (bmx cd rk j)) else k (nI j) (nI (rk j))) else k (oI (bmx cd rk j)) (oM rk (bmx cd rk j))) = k (oI (bmx cd rk (j + 1))) (oM rk (bmx cd rk (j + 1))) := by
  have eb : bmx cd rk (j + 1) = match bmx cd rk j with | none => if cd j then some j else none | some b => if cd j && decide (rk b < rk j) then some j else some b := rfl
  rw [eb]
  have r1 := hr j
  cases e3 : bmx cd rk j with
  | none =>
    simp only [oI, oM, kz_lm1 r1, if_false]
    cases cd j <;> simp [oI, oM]
  | some b =>
    have r2 := hr b
    simp only [oI, oM]
    simp (disch := omega) only [kz_le]
    by_cases c3 : rk j ≤ rk b
    · have c4 : ¬ rk b < rk j := by omega
      simp only [if_pos c3, decide_eq_false c4, Bool.and_false]
      cases cd j <;> simp
    · have c4 : rk b < rk j := by omega
      simp only [if_neg c3, decide_eq_true c4, Bool.and_true]
      cases cd j <;> simp
/-- a lamp: none, live, dead -/
def lmN (h d s : Nat) : Nat := if h.testBit s then (if d.testBit s then 2 else 1) else 0
theorem x_lampAt {h d s : Nat} (hh : h < 2 ^ 31) (hd : d < 2 ^ 31) (hs : s < 32) : f_X2_lampAt (nI h) (nI d) (nI s) = some (nI (lmN h d s)) := by
  unfold f_X2_lampAt lmN
  simp only [kb_has0 hh hs, kb_has0 hd hs]
  cases h.testBit s <;> cases d.testBit s <;> rfl
theorem lm_0 (h d s : Nat) : (nI (lmN h d s) = 0) = (h.testBit s = false) := by
  unfold lmN
  cases h.testBit s <;> cases d.testBit s <;> simp <;> decide
theorem lm_1 (h d s : Nat) : (nI (lmN h d s) = 1) = ((h.testBit s && !d.testBit s) = true) := by
  unfold lmN
  cases h.testBit s <;> cases d.testBit s <;> simp <;> decide
theorem lm_2 (h d s : Nat) : (nI (lmN h d s) = 2) = ((h.testBit s && d.testBit s) = true) := by
  unfold lmN
  cases h.testBit s <;> cases d.testBit s <;> simp <;> decide
theorem or_lt8 {a s : Nat} (ha : a < 256) (hs : s < 8) : a ||| 2 ^ s < 256 := Nat.or_lt_two_pow (n := 8) ha (Nat.pow_lt_pow_right (by decide) hs)
noncomputable def wrS (P wt : Nat → Nat) (lv st : Nat) : Nat := 10000 * pcN (svS P wt lv st) + ssS P lv st
section MO
variable {P wt : Nat → Nat} {plan tb sp po wa ac bL W pg : Nat → Int32}
theorem wrS_le (h : plI P plan) (lv st : Nat) : wrS P wt lv st ≤ 83942 := by
  have := ssS_le h lv st
  have := pcN_le (svS P wt lv st)
  unfold wrS
  omega
theorem x_rank (h : plI P plan) (hr : raI P ac bL) (hW : ∀ p, p < 6 → W p = nI (wt p)) (hw : ∀ p, p < 6 → wt p ≤ 99) {lv st : Nat} (hlv : lv < 256) (hst : st < 256) : f_X2_rankOf W (nI (P 10)) (nI (P 11)) (nI (P 12)) ac bL (nI lv) (nI st) = some (nI (wrS P wt lv st)) := by
  have hv := svS_lt (wt := wt) h lv st
  unfold f_X2_rankOf
  rw [x_served h hr hW hw hlv hst]
  simp only [Option.bind_some]
  rw [x_bitCount _ (by omega)]
  simp only [Option.bind_some]
  rw [x_sumOfAll h hr hlv hst]
  simp only [Option.bind_some]
  rw [show (10000 : Int32) = nI 10000 from rfl, pk_mul, nI_add, Nat.mul_comm]
  rfl
theorem m_worth (h : plI P plan) (hW : ∀ p, p < 6 → pg (3 + p) = nI (wt p)) (hw : ∀ p, p < 6 → wt p ≤ 99) {lv st : Nat} (hlv : lv < 2 ^ 31) (hst : st < 2 ^ 31) : f_X7_worthBy plan pg (nI lv) (nI st) = some (nI (wrS P wt lv st)) := by
  have hv := svS_lt (wt := wt) h lv st
  unfold f_X7_worthBy
  rw [m_served_page h hW hw hlv hst]
  simp only [Option.bind_some]
  rw [m_ones _ (by omega)]
  simp only [Option.bind_some]
  rw [m_sumsBy h hlv hst]
  simp only [Option.bind_some]
  rw [show (10000 : Int32) = nI 10000 from rfl, pk_mul, nI_add]
  rfl
theorem x_bestSpot (h : plI P plan) (hr : raI P ac bL) (hW : ∀ p, p < 6 → W p = nI (wt p)) (hw : ∀ p, p < 6 → wt p ≤ 99) {hu de st : Nat} (hhu : hu < 256) (hde : de < 256) (hst : st < 256) : f_X6_bestSpot (nI (P 10)) (nI (P 11)) (nI (P 12)) ac bL (nI hu) (nI de) (nI st) W = some (oI (bmx (fun s => !hu.testBit s) (fun s => wrS P wt (lvN hu de ||| 2 ^ s) st) (P 11))) := by
  obtain ⟨h0, h8, h6, h5⟩ := id h
  have hl := lvN_le hu de
  unfold f_X6_bestSpot
  have key := lp_up2 (fun n2 y z i => lp_X6_bestSpot_7 (nI (P 10)) (nI (P 11)) (nI (P 12)) ac bL (nI hu) (nI de) (nI st) W n2 y z i) (fun j => oI (bmx (fun s => !hu.testBit s) (fun s => wrS P wt (lvN hu de ||| 2 ^ s) st) j)) (fun j => oR (fun s => wrS P wt (lvN hu de ||| 2 ^ s) st) (bmx (fun s => !hu.testBit s) (fun s => wrS P wt (lvN hu de ||| 2 ^ s) st) j)) (P 11) (some (oI (bmx (fun s => !hu.testBit s) (fun s => wrS P wt (lvN hu de ||| 2 ^ s) st) (P 11)))) (fun n2 => ?_) (fun n2 s hs => ?_) 1000 0 (Nat.zero_le _) (by omega)
  · exact key
  · rw [le_X6_bestSpot_7]
    unfold bk_X6_bestSpot_7
    rw [if_pos (nI_le (Nat.le_refl _) (by omega))]
  · rw [le_X6_bestSpot_7]
    unfold bk_X6_bestSpot_7
    have ho := or_lt8 (a := lvN hu de) (s := s) (by omega) (by omega)
    rw [if_neg (nI_ge hs (by omega)), x_lampAt (by omega) (by omega) (by omega), x_live hhu]
    simp only [Option.bind_some, nm_, nI_1]
    rw [kb_bit s (by omega), fa_or, x_rank h hr hW hw ho hst]
    simp only [Option.bind_some, lm_0]
    have hb := bmx_c (fun a b => lp_X6_bestSpot_7 (nI (P 10)) (nI (P 11)) (nI (P 12)) ac bL (nI hu) (nI de) (nI st) W n2 a b (nI (s + 1))) (fun s => !hu.testBit s) (fun s => wrS P wt (lvN hu de ||| 2 ^ s) st) (fun j => by have := wrS_le (wt := wt) h (lvN hu de ||| 2 ^ j) st; omega) s (by omega)
    refine Eq.trans ?_ hb
    cases hu.testBit s <;> simp
theorem m_bestSpot (h : plI P plan) (hW : ∀ p, p < 6 → pg (3 + p) = nI (wt p)) (hw : ∀ p, p < 6 → wt p ≤ 99) {hu de st : Nat} (g0 : pg 0 = nI hu) (g1 : pg 1 = nI de) (g2 : pg 2 = nI st) (hhu : hu < 256) (hde : de < 256) (hst : st < 256) : f_X7_bestSpot plan pg = some (oI (bmx (fun s => !hu.testBit s) (fun s => wrS P wt (lvN hu de ||| 2 ^ s) st) (P 11))) := by
  obtain ⟨h0, h8, h6, h5⟩ := id h
  have hl := lvN_le hu de
  unfold f_X7_bestSpot
  have key := lp_up2 (fun n2 y z i => lp_X7_bestSpot_7 plan pg n2 y z i) (fun j => oI (bmx (fun s => !hu.testBit s) (fun s => wrS P wt (lvN hu de ||| 2 ^ s) st) j)) (fun j => oM (fun s => wrS P wt (lvN hu de ||| 2 ^ s) st) (bmx (fun s => !hu.testBit s) (fun s => wrS P wt (lvN hu de ||| 2 ^ s) st) j)) (P 11) (some (oI (bmx (fun s => !hu.testBit s) (fun s => wrS P wt (lvN hu de ||| 2 ^ s) st) (P 11)))) (fun n2 => ?_) (fun n2 s hs => ?_) 1000 0 (Nat.zero_le _) (by omega)
  · exact key
  · rw [le_X7_bestSpot_7]
    unfold bk_X7_bestSpot_7 f_X7_spots
    rw [show Int32.toNatClampNeg 11 = 11 from rfl, (h0 11 (by omega)).1]
    simp only [Option.bind_some]
    rw [if_pos (nI_le (Nat.le_refl _) (by omega))]
  · rw [le_X7_bestSpot_7]
    unfold bk_X7_bestSpot_7 bk_X7_bestSpot_62 f_X7_spots
    have ho := or_lt8 (a := lvN hu de) (s := s) (by omega) (by omega)
    rw [show Int32.toNatClampNeg 11 = 11 from rfl, (h0 11 (by omega)).1]
    simp only [Option.bind_some]
    rw [if_neg (nI_ge hs (by omega)), show Int32.toNatClampNeg 0 = 0 from rfl, show Int32.toNatClampNeg 2 = 2 from rfl, g0, g2, m_has (by omega) (by omega), m_live hhu g0 g1]
    simp only [Option.bind_some, nm_, nI_1, kz_b01]
    rw [kb_bit s (by omega), fa_or, m_worth h hW hw (by omega) (by omega)]
    simp only [Option.bind_some]
    have hb := bmx_m (fun a b => lp_X7_bestSpot_7 plan pg n2 a b (nI (s + 1))) (fun s => !hu.testBit s) (fun s => wrS P wt (lvN hu de ||| 2 ^ s) st) (fun j => by have := wrS_le (wt := wt) h (lvN hu de ||| 2 ^ j) st; omega) s
    refine Eq.trans ?_ hb
    by_cases c : nI (wrS P wt (lvN hu de ||| 2 ^ s) st) ≤ oM (fun s => wrS P wt (lvN hu de ||| 2 ^ s) st) (bmx (fun s => !hu.testBit s) (fun s => wrS P wt (lvN hu de ||| 2 ^ s) st) s)
    · simp only [if_pos c]
      cases hu.testBit s <;> simp
    · simp only [if_neg c]
      cases hu.testBit s <;> simp
theorem x_worstWall (h : plI P plan) (hr : raI P ac bL) (hW : ∀ p, p < 6 → W p = nI (wt p)) (hw : ∀ p, p < 6 → wt p ≤ 99) {hu de st : Nat} (hhu : hu < 256) (hst : st < 256) : f_X6_worstWall (nI (P 10)) (nI (P 11)) (nI (P 12)) (nI (P 13)) ac bL (nI hu) (nI de) (nI st) W = some (oI (bmx (fun w => st.testBit w) (fun w => wrS P wt (lvN hu de) (clr st w)) (P 13))) := by
  obtain ⟨h0, h8, h6, h5⟩ := id h
  have hl := lvN_le hu de
  unfold f_X6_worstWall
  have key := lp_up2 (fun n2 y z i => lp_X6_worstWall_7 (nI (P 10)) (nI (P 11)) (nI (P 12)) (nI (P 13)) ac bL (nI hu) (nI de) (nI st) W n2 y z i) (fun j => oI (bmx (fun w => st.testBit w) (fun w => wrS P wt (lvN hu de) (clr st w)) j)) (fun j => oR (fun w => wrS P wt (lvN hu de) (clr st w)) (bmx (fun w => st.testBit w) (fun w => wrS P wt (lvN hu de) (clr st w)) j)) (P 13) (some (oI (bmx (fun w => st.testBit w) (fun w => wrS P wt (lvN hu de) (clr st w)) (P 13)))) (fun n2 => ?_) (fun n2 s hs => ?_) 1000 0 (Nat.zero_le _) (by omega)
  · exact key
  · rw [le_X6_worstWall_7]
    unfold bk_X6_worstWall_7
    rw [if_pos (nI_le (Nat.le_refl _) (by omega))]
  · rw [le_X6_worstWall_7]
    unfold bk_X6_worstWall_7
    have ho := clr_le st s
    rw [if_neg (nI_ge hs (by omega)), x_live hhu]
    simp only [Option.bind_some, nm_, nI_1]
    rw [kb_bit s (by omega), kb_andn (by omega), show st &&& (255 ^^^ 2 ^ s) = clr st s from rfl, x_rank h hr hW hw (by omega) (by omega)]
    simp only [Option.bind_some, kb_has0 (show st < 2 ^ 31 by omega) (show s < 32 by omega)]
    have hb := bmx_c (fun a b => lp_X6_worstWall_7 (nI (P 10)) (nI (P 11)) (nI (P 12)) (nI (P 13)) ac bL (nI hu) (nI de) (nI st) W n2 a b (nI (s + 1))) (fun w => st.testBit w) (fun w => wrS P wt (lvN hu de) (clr st w)) (fun j => by have := wrS_le (wt := wt) h (lvN hu de) (clr st j); omega) s (by omega)
    refine Eq.trans ?_ hb
    cases st.testBit s <;> simp
theorem m_worstWall (h : plI P plan) (hW : ∀ p, p < 6 → pg (3 + p) = nI (wt p)) (hw : ∀ p, p < 6 → wt p ≤ 99) {hu de st : Nat} (g0 : pg 0 = nI hu) (g1 : pg 1 = nI de) (g2 : pg 2 = nI st) (hhu : hu < 256) (hst : st < 256) : f_X7_worstWall plan pg = some (oI (bmx (fun w => st.testBit w) (fun w => wrS P wt (lvN hu de) (clr st w)) (P 13))) := by
  obtain ⟨h0, h8, h6, h5⟩ := id h
  have hl := lvN_le hu de
  unfold f_X7_worstWall
  have key := lp_up2 (fun n2 y z i => lp_X7_worstWall_7 plan pg n2 y z i) (fun j => oI (bmx (fun w => st.testBit w) (fun w => wrS P wt (lvN hu de) (clr st w)) j)) (fun j => oM (fun w => wrS P wt (lvN hu de) (clr st w)) (bmx (fun w => st.testBit w) (fun w => wrS P wt (lvN hu de) (clr st w)) j)) (P 13) (some (oI (bmx (fun w => st.testBit w) (fun w => wrS P wt (lvN hu de) (clr st w)) (P 13)))) (fun n2 => ?_) (fun n2 s hs => ?_) 1000 0 (Nat.zero_le _) (by omega)
  · exact key
  · rw [le_X7_worstWall_7]
    unfold bk_X7_worstWall_7 f_X7_walls
    rw [show Int32.toNatClampNeg 13 = 13 from rfl, (h0 13 (by omega)).1]
    simp only [Option.bind_some]
    rw [if_pos (nI_le (Nat.le_refl _) (by omega))]
  · rw [le_X7_worstWall_7]
    unfold bk_X7_worstWall_7 bk_X7_worstWall_64 f_X7_walls
    have ho := clr_le st s
    rw [show Int32.toNatClampNeg 13 = 13 from rfl, (h0 13 (by omega)).1]
    simp only [Option.bind_some]
    rw [if_neg (nI_ge hs (by omega)), show Int32.toNatClampNeg 2 = 2 from rfl, g2, m_has (by omega) (by omega), m_live hhu g0 g1]
    simp only [Option.bind_some, nm_, nI_1, kz_b01]
    rw [kb_bit s (by omega), kb_andn (by omega), show st &&& (255 ^^^ 2 ^ s) = clr st s from rfl, m_worth h hW hw (by omega) (by omega)]
    simp only [Option.bind_some]
    have hb := bmx_m (fun a b => lp_X7_worstWall_7 plan pg n2 a b (nI (s + 1))) (fun w => st.testBit w) (fun w => wrS P wt (lvN hu de) (clr st w)) (fun j => by have := wrS_le (wt := wt) h (lvN hu de) (clr st j); omega) s
    refine Eq.trans ?_ hb
    by_cases c : nI (wrS P wt (lvN hu de) (clr st s)) ≤ oM (fun w => wrS P wt (lvN hu de) (clr st w)) (bmx (fun w => st.testBit w) (fun w => wrS P wt (lvN hu de) (clr st w)) s)
    · simp only [if_pos c]
      cases st.testBit s <;> simp
    · simp only [if_neg c]
      cases st.testBit s <;> simp
/-- the least and the greatest sum of the first points -/
noncomputable def lmn (P : Nat → Nat) (lv st : Nat) : Nat → Nat
  | 0 => 2147483647
  | j + 1 => min (lmn P lv st j) (smS P lv st j)
noncomputable def mxn (P : Nat → Nat) (lv st : Nat) : Nat → Nat
  | 0 => 0
  | j + 1 => max (mxn P lv st j) (smS P lv st j)
theorem lm_mx (h : plI P plan) (lv st : Nat) : ∀ j, lmn P lv st j < 2 ^ 31 ∧ mxn P lv st j ≤ 657 ∧ (0 < j → lmn P lv st j ≤ mxn P lv st j)
  | 0 => ⟨by unfold lmn; omega, by unfold mxn; omega, fun h => by omega⟩
  | j + 1 => by
    obtain ⟨a1, a2, a3⟩ := lm_mx h lv st j
    have b := smS_le h lv st j
    have e1 : lmn P lv st (j + 1) = min (lmn P lv st j) (smS P lv st j) := rfl
    have e2 : mxn P lv st (j + 1) = max (mxn P lv st j) (smS P lv st j) := rfl
    rw [e1, e2]
    exact ⟨by omega, by omega, fun _ => by omega⟩
theorem x_evenness (h : plI P plan) (hr : raI P ac bL) {hu de st : Nat} (hhu : hu < 256) (hst : st < 256) : f_X6_evenness (nI (P 10)) (nI (P 11)) (nI (P 12)) ac bL (nI hu) (nI de) (nI st) = bk_X6_evenness_48 (nI (lmn P (lvN hu de) st (P 12))) (nI (mxn P (lvN hu de) st (P 12))) := by
  obtain ⟨h0, h8, h6, h5⟩ := id h
  have hl := lvN_le hu de
  unfold f_X6_evenness
  have key := lp_up2 (fun n2 y z i => lp_X6_evenness_7 (nI (P 10)) (nI (P 11)) (nI (P 12)) ac bL (nI hu) (nI de) (nI st) n2 y z i) (fun j => nI (lmn P (lvN hu de) st j)) (fun j => nI (mxn P (lvN hu de) st j)) (P 12) (bk_X6_evenness_48 (nI (lmn P (lvN hu de) st (P 12))) (nI (mxn P (lvN hu de) st (P 12)))) (fun n2 => ?_) (fun n2 p hp => ?_) 1000 0 (Nat.zero_le _) (by omega)
  · exact key
  · rw [le_X6_evenness_7]
    unfold bk_X6_evenness_7
    rw [if_pos (nI_le (Nat.le_refl _) (by omega))]
  · rw [le_X6_evenness_7]
    unfold bk_X6_evenness_7 f_X2_sumOf
    obtain ⟨a1, a2, a3⟩ := lm_mx h (lvN hu de) st p
    have b := smS_le h (lvN hu de) st p
    rw [if_neg (nI_ge hp (by omega)), x_live hhu]
    simp only [Option.bind_some]
    rw [x_sumAt h hr (by omega) hst hp]
    simp only [Option.bind_some, nm_, nI_1]
    rw [kz_min a1 (by omega), kz_max (by omega) (by omega)]
    rfl
theorem m_even (h : plI P plan) {hu de st : Nat} (g0 : pg 0 = nI hu) (g1 : pg 1 = nI de) (g2 : pg 2 = nI st) (hhu : hu < 256) (hst : st < 256) : f_X7_even plan pg = bk_X7_even_71 (if P 12 = 0 then -9 else nI (lmn P (lvN hu de) st (P 12))) (nI (mxn P (lvN hu de) st (P 12))) := by
  obtain ⟨h0, h8, h6, h5⟩ := id h
  have hl := lvN_le hu de
  unfold f_X7_even
  have key := lp_up2 (fun n2 y z i => lp_X7_even_7 plan pg n2 y z i) (fun j => if j = 0 then -9 else nI (lmn P (lvN hu de) st j)) (fun j => nI (mxn P (lvN hu de) st j)) (P 12) (bk_X7_even_71 (if P 12 = 0 then -9 else nI (lmn P (lvN hu de) st (P 12))) (nI (mxn P (lvN hu de) st (P 12)))) (fun n2 => ?_) (fun n2 p hp => ?_) 1000 0 (Nat.zero_le _) (by omega)
  · exact key
  · rw [le_X7_even_7]
    unfold bk_X7_even_7 f_X7_points
    rw [show Int32.toNatClampNeg 12 = 12 from rfl, (h0 12 (by omega)).1]
    simp only [Option.bind_some]
    rw [if_pos (nI_le (Nat.le_refl _) (by omega))]
  · rw [le_X7_even_7]
    unfold bk_X7_even_7 bk_X7_even_45 bk_X7_even_51 f_X7_points
    obtain ⟨a1, a2, a3⟩ := lm_mx h (lvN hu de) st p
    have b := smS_le h (lvN hu de) st p
    rw [show Int32.toNatClampNeg 12 = 12 from rfl, (h0 12 (by omega)).1]
    simp only [Option.bind_some]
    rw [if_neg (nI_ge hp (by omega)), show Int32.toNatClampNeg 2 = 2 from rfl, g2, m_live hhu g0 g1]
    simp only [Option.bind_some]
    rw [m_sumBy h (by omega) (by omega) hp]
    simp only [Option.bind_some, nm_, nI_1]
    have e1 : lmn P (lvN hu de) st (p + 1) = min (lmn P (lvN hu de) st p) (smS P (lvN hu de) st p) := rfl
    have e2 : mxn P (lvN hu de) st (p + 1) = max (mxn P (lvN hu de) st p) (smS P (lvN hu de) st p) := rfl
    rw [if_neg (show ¬ p + 1 = 0 by omega), e1, e2]
    have e0 : (nI p = (0 : Int32)) = (p = 0) := kz_eq (a := p) (b := 0) (by omega) (by omega)
    simp (disch := omega) only [e0, kz_le]
    have hmx : (if smS P (lvN hu de) st p ≤ mxn P (lvN hu de) st p then mxn P (lvN hu de) st p else smS P (lvN hu de) st p) = max (mxn P (lvN hu de) st p) (smS P (lvN hu de) st p) := by split <;> omega
    by_cases c : p = 0
    · subst c
      have e3 : min (lmn P (lvN hu de) st 0) (smS P (lvN hu de) st 0) = smS P (lvN hu de) st 0 := by
        have : lmn P (lvN hu de) st 0 = 2147483647 := rfl
        omega
      rw [if_pos rfl, e3, ← hmx]
      split <;> rfl
    · rw [if_neg c, if_neg c, ← hmx]
      have e5 : (nI (lmn P (lvN hu de) st p) ≤ nI (smS P (lvN hu de) st p)) = (lmn P (lvN hu de) st p ≤ smS P (lvN hu de) st p) := kz_le (by omega) (by omega)
      simp only [e5]
      by_cases c2 : lmn P (lvN hu de) st p ≤ smS P (lvN hu de) st p
      · rw [if_pos c2, show min (lmn P (lvN hu de) st p) (smS P (lvN hu de) st p) = lmn P (lvN hu de) st p by omega]
        split <;> rfl
      · rw [if_neg c2, show min (lmn P (lvN hu de) st p) (smS P (lvN hu de) st p) = smS P (lvN hu de) st p by omega]
        split <;> rfl
end MO
