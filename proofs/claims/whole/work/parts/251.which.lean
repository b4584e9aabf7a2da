/-! SEEN, AND WHICH -/
/-- what was seen, on both sides -/
def seI (k : Nat) (pt va ws : Nat → Nat) (a b c a' b' c' : Nat → Int32) : Prop := k ≤ 6 ∧ ∀ i, i < k → (a i = nI (pt i) ∧ a' i = nI (pt i) ∧ pt i < 6) ∧ (b i = nI (va i) ∧ b' i = nI (va i) ∧ va i ≤ 999) ∧ (c i = nI (ws i) ∧ c' i = nI (ws i) ∧ ws i ≤ 1)
noncomputable def soS (P : Nat → Nat) (st lv : Nat) (pt va ws : Nat → Nat) (i : Nat) : Bool := !decide (pt i < P 12) || (decide (va i ≤ smS P lv st (pt i)) == decide (ws i = 1))
noncomputable def agS (P : Nat → Nat) (st lv : Nat) (pt va ws : Nat → Nat) : Nat → Bool
  | 0 => true
  | i + 1 => agS P st lv pt va ws i && soS P st lv pt va ws i
theorem agS_mono {P : Nat → Nat} {st lv : Nat} {pt va ws : Nat → Nat} : ∀ {n s : Nat}, s ≤ n → agS P st lv pt va ws n = true → agS P st lv pt va ws s = true
  | 0, s, h, e => by rw [show s = 0 by omega]; exact e
  | n + 1, s, h, e => by
    rcases Nat.lt_or_ge s (n + 1) with q | q
    · unfold agS at e
      rw [Bool.and_eq_true] at e
      exact agS_mono (by omega) e.1
    · rw [show s = n + 1 by omega]; exact e
theorem kz_ix3 {α : Type} {i n : Nat} {x : Option α} (h : i < n) (h2 : i < 2 ^ 31) : (if (nI i < 0 ∨ n ≤ i) then none else x) = x := by
  rw [if_neg]
  intro q
  rcases q with q | q
  · exact nI_pos h2 q
  · omega
section WH
variable {P wt : Nat → Nat} {plan tb sp po wa ac bL W pg : Nat → Int32} {hu de st : Nat} {k : Nat} {pt va ws : Nat → Nat} {a b c a' b' c' : Nat → Int32}
theorem x_agrees (h : plI P plan) (hr : raI P ac bL) (hs : seI k pt va ws a b c a' b' c') {lv : Nat} (hlv : lv < 256) (hst : st < 256) : f_X3_agrees (nI k) a b c (nI (P 10)) (nI (P 11)) (nI (P 12)) ac bL (nI lv) (nI st) = some (if agS P st lv pt va ws k then 1 else 0) := by
  obtain ⟨h0, h8, h6, h5⟩ := id h
  obtain ⟨hk, hq⟩ := hs
  unfold f_X3_agrees
  have key : ∀ n2 i, i ≤ k → agS P st lv pt va ws i = true → k - i < n2 → lp_X3_agrees_3 (nI k) a b c (nI (P 10)) (nI (P 11)) (nI (P 12)) ac bL (nI lv) (nI st) n2 (nI i) = some (if agS P st lv pt va ws k then 1 else 0) := by
    intro n2
    induction n2 with
    | zero => intro s _ _ hf; omega
    | succ n2 ih =>
      intro i hi hw hf
      rw [le_X3_agrees_3]
      unfold bk_X3_agrees_3 bk_X3_agrees_64
      rcases Nat.lt_or_ge i k with q | q
      · obtain ⟨⟨p1, p1', p2⟩, ⟨v1, v1', v2⟩, w1, w1', w2⟩ := hq i q
        have es : agS P st lv pt va ws (i + 1) = (agS P st lv pt va ws i && soS P st lv pt va ws i) := rfl
        rw [hw, Bool.true_and] at es
        rw [if_neg (nI_ge q (by omega)), if_neg (show ¬ (6 : Int32) ≤ nI i from nI_ge (b := 6) (by omega) (by omega)), kz_ix (by omega) (by omega), kz_ix (by omega) (by omega), kz_cl (by omega), p1, v1, w1, x_hasPoint (by omega) (by omega)]
        simp only [Option.bind_some, nm_, nI_1]
        by_cases cp : pt i < P 12
        · rw [if_pos cp, if_neg (show ¬ (1 : Int32) = 0 by decide), x_sumAt h hr hlv hst cp]
          simp only [Option.bind_some]
          have bs := smS_le h lv st (pt i)
          have e5 : (nI (smS P lv st (pt i)) < nI (va i)) = (smS P lv st (pt i) < va i) := kz_lt (by omega) (by omega)
          have e6 : ((0 : Int32) = nI (ws i)) = (ws i = 0) := by rw [show (0 : Int32) = nI 0 from rfl, kz_eq (by omega) (by omega)]; exact propext eq_comm
          have e7 : ((1 : Int32) = nI (ws i)) = (ws i = 1) := by rw [show (1 : Int32) = nI 1 from rfl, kz_eq (by omega) (by omega)]; exact propext eq_comm
          simp only [e5, e6, e7]
          rw [kz_ix3 (by omega) (by omega), kz_ix3 (by omega) (by omega), kz_ix3 (by omega) (by omega)]
          have eo : soS P st lv pt va ws i = (decide (va i ≤ smS P lv st (pt i)) == decide (ws i = 1)) := by unfold soS; simp [cp]
          rw [eo] at es
          have stop : agS P st lv pt va ws (i + 1) = false → agS P st lv pt va ws k = false := fun z => by
            cases e : agS P st lv pt va ws k with
            | false => rfl
            | true => rw [agS_mono (show i + 1 ≤ k by omega) e] at z; cases z
          by_cases c1 : smS P lv st (pt i) < va i
          · rw [if_pos c1]
            rw [decide_eq_false (show ¬ va i ≤ smS P lv st (pt i) by omega)] at es
            by_cases c2 : ws i = 0
            · rw [if_pos c2]
              exact ih (i + 1) q (by rw [es, c2]; decide) (by omega)
            · rw [if_neg c2, stop (by rw [es, show ws i = 1 by omega]; decide)]
              rfl
          · rw [if_neg c1]
            rw [decide_eq_true (show va i ≤ smS P lv st (pt i) by omega)] at es
            by_cases c2 : ws i = 1
            · rw [if_pos c2]
              exact ih (i + 1) q (by rw [es, c2]; decide) (by omega)
            · rw [if_neg c2, stop (by rw [es, show ws i = 0 by omega]; decide)]
              rfl
        · rw [if_neg cp, if_pos rfl]
          exact ih (i + 1) q (by rw [es]; unfold soS; simp [cp]) (by omega)
      · have : i = k := by omega
        subst this
        rw [if_pos (nI_le (Nat.le_refl _) (by omega)), hw]
        rfl
  exact key 1000 0 (Nat.zero_le _) rfl (by omega)
theorem m_isSo (h : plI P plan) (hs : seI k pt va ws a b c a' b' c') {lv : Nat} (hlv : lv < 256) (hst : st < 256) (g2 : pg 2 = nI st) {i : Nat} (hi : i < k) : f_X7_isSo plan pg a' b' c' (nI lv) (nI i) = some (if soS P st lv pt va ws i then 1 else 0) := by
  obtain ⟨h0, h8, h6, h5⟩ := id h
  obtain ⟨hk, hq⟩ := hs
  obtain ⟨⟨p1, p1', p2⟩, ⟨v1, v1', v2⟩, w1, w1', w2⟩ := hq i hi
  unfold f_X7_isSo bk_X7_isSo_44 bk_X7_isSo_59
  rw [kz_ix (by omega) (by omega), kz_ix (by omega) (by omega), kz_cl (by omega), p1', v1', w1', m_noPointN h (by omega), show Int32.toNatClampNeg 2 = 2 from rfl, g2]
  simp only [Option.bind_some]
  by_cases cp : pt i < P 12
  · rw [if_pos cp, if_pos rfl, m_sumBy h (by omega) (by omega) cp]
    simp only [Option.bind_some]
    have bs := smS_le h lv st (pt i)
    have e5 : (nI (smS P lv st (pt i)) < nI (va i)) = (smS P lv st (pt i) < va i) := kz_lt (by omega) (by omega)
    have e7 : (nI (ws i) = (1 : Int32)) = (ws i = 1) := kz_eq (b := 1) (by omega) (by omega)
    simp only [e5, e7]
    rw [kz_ix3 (by omega) (by omega), kz_ix3 (by omega) (by omega), kz_ix3 (by omega) (by omega)]
    have eo : soS P st lv pt va ws i = (decide (va i ≤ smS P lv st (pt i)) == decide (ws i = 1)) := by unfold soS; simp [cp]
    rw [eo]
    by_cases c1 : smS P lv st (pt i) < va i
    · rw [if_pos c1, decide_eq_false (show ¬ va i ≤ smS P lv st (pt i) by omega)]
      by_cases c2 : ws i = 1 <;> simp [c2]
    · rw [if_neg c1, decide_eq_true (show va i ≤ smS P lv st (pt i) by omega)]
      by_cases c2 : ws i = 1 <;> simp [c2]
  · rw [if_neg cp, if_neg (by decide)]
    unfold soS
    simp [cp]
noncomputable def whS (P : Nat → Nat) (st lv : Nat) (pt va ws : Nat → Nat) (k s : Nat) : Bool := lv.testBit s && agS P st (clr lv s) pt va ws k
theorem x_which (h : plI P plan) (hr : raI P ac bL) (hs : seI k pt va ws a b c a' b' c') (hhu : hu < 256) (hst : st < 256) : f_X6_which (nI (P 10)) (nI (P 11)) (nI (P 12)) ac bL (nI hu) (nI de) (nI st) (nI k) a b c = some (nI (mkb (whS P st (lvN hu de) pt va ws k) (P 11))) := by
  obtain ⟨h0, h8, h6, h5⟩ := id h
  have hl := lvN_le hu de
  unfold f_X6_which
  rw [x_live hhu, Option.bind_some]
  have key := lp_up1 (fun n2 y i => lp_X6_which_12 (nI (P 10)) (nI (P 11)) (nI (P 12)) ac bL (nI st) (nI k) a b c (nI (lvN hu de)) n2 y i) (fun s => nI (mkb (whS P st (lvN hu de) pt va ws k) s)) (P 11) (some (nI (mkb (whS P st (lvN hu de) pt va ws k) (P 11)))) (fun n2 => ?_) (fun n2 s hs2 => ?_) 1000 0 (Nat.zero_le _) (by omega)
  · exact key
  · rw [le_X6_which_12]
    unfold bk_X6_which_12
    rw [if_pos (nI_le (Nat.le_refl _) (by omega))]
  · rw [le_X6_which_12]
    unfold bk_X6_which_12
    have hc := clr_le (lvN hu de) s
    rw [if_neg (nI_ge hs2 (by omega)), kb_bit s (by omega)]
    simp only [nm_, nI_1]
    have e0 : (nI (lvN hu de) &&& nI (2 ^ s) = 0) = ((lvN hu de).testBit s = false) := propext (fa_bit (by omega))
    rw [kb_andn (by omega), show lvN hu de &&& (255 ^^^ 2 ^ s) = clr (lvN hu de) s from rfl, x_agrees h hr hs (by omega) hst, fa_or, mkb_or]
    simp only [Option.bind_some, kz_b01, e0]
    have eb : mkb (whS P st (lvN hu de) pt va ws k) (s + 1) = mkb (whS P st (lvN hu de) pt va ws k) s + (if whS P st (lvN hu de) pt va ws k s then 2 ^ s else 0) := rfl
    rw [eb, show whS P st (lvN hu de) pt va ws k s = ((lvN hu de).testBit s && agS P st (clr (lvN hu de) s) pt va ws k) from rfl]
    cases (lvN hu de).testBit s <;> cases agS P st (clr (lvN hu de) s) pt va ws k <;> simp
theorem m_which_in (h : plI P plan) (hs : seI k pt va ws a b c a' b' c') (g0 : pg 0 = nI hu) (g1 : pg 1 = nI de) (g2 : pg 2 = nI st) (hhu : hu < 256) (hst : st < 256) {s : Nat} (hs2 : s < 8) (k9 : Int32 → Int32 → Option (Int32 × Int32)) (v : Int32) : ∀ (n2 i : Nat), i ≤ k → k - i < n2 → lp_X7_which_32 k9 0 (nI k) plan pg a' b' c' v (nI s) n2 (if ((lvN hu de).testBit s && agS P st (clr (lvN hu de) s) pt va ws i) then 1 else 0) (nI i) = bk_X7_which_79 k9 0 (nI k) plan pg a' b' c' v (nI s) (if whS P st (lvN hu de) pt va ws k s then 1 else 0) := by
  have hk := hs.1
  have hl := lvN_le hu de
  have hc := clr_le (lvN hu de) s
  intro n2
  induction n2 with
  | zero => intro i _ hf; omega
  | succ n2 ih =>
    intro i hi hf
    rw [le_X7_which_32]
    unfold bk_X7_which_32
    rcases Nat.lt_or_ge i k with q | q
    · rw [if_neg (nI_ge q (by omega)), m_live hhu g0 g1, kb_bit s hs2]
      simp only [Option.bind_some, nm_, nI_1]
      rw [kb_andn (by omega), show lvN hu de &&& (255 ^^^ 2 ^ s) = clr (lvN hu de) s from rfl, m_isSo h hs (by omega) hst g2 q]
      simp only [Option.bind_some, kz_b01]
      have i2 := ih (i + 1) q (by omega)
      rw [show agS P st (clr (lvN hu de) s) pt va ws (i + 1) = (agS P st (clr (lvN hu de) s) pt va ws i && soS P st (clr (lvN hu de) s) pt va ws i) from rfl] at i2
      cases e1 : (lvN hu de).testBit s <;> cases e2 : agS P st (clr (lvN hu de) s) pt va ws i <;> cases e3 : soS P st (clr (lvN hu de) s) pt va ws i <;> rw [e1, e2, e3] at i2 <;> simpa using i2
    · have : i = k := by omega
      subst this
      rw [if_pos (nI_le (Nat.le_refl _) (by omega))]
      rfl
theorem m_which (h : plI P plan) (hs : seI k pt va ws a b c a' b' c') (g0 : pg 0 = nI hu) (g1 : pg 1 = nI de) (g2 : pg 2 = nI st) (hhu : hu < 256) (hst : st < 256) (th : Int32) : f_X7_which th (nI k) plan pg a' b' c' = some (nI (mkb (whS P st (lvN hu de) pt va ws k) (P 11)), 0) := by
  obtain ⟨h0, h8, h6, h5⟩ := id h
  have hk := hs.1
  have hl := lvN_le hu de
  unfold f_X7_which
  have key := lp_up1 (fun n2 y i => lp_X7_which_9 0 (nI k) plan pg a' b' c' n2 y i) (fun s => nI (mkb (whS P st (lvN hu de) pt va ws k) s)) (P 11) (some (nI (mkb (whS P st (lvN hu de) pt va ws k) (P 11)), 0)) (fun n2 => ?_) (fun n2 s hs2 => ?_) 1000 0 (Nat.zero_le _) (by omega)
  · exact key
  · rw [le_X7_which_9]
    unfold bk_X7_which_9 f_X7_spots
    rw [show Int32.toNatClampNeg 11 = 11 from rfl, (h0 11 (by omega)).1]
    simp only [Option.bind_some]
    rw [if_pos (nI_le (Nat.le_refl _) (by omega))]
  · rw [le_X7_which_9]
    unfold bk_X7_which_9 f_X7_spots
    rw [show Int32.toNatClampNeg 11 = 11 from rfl, (h0 11 (by omega)).1, Option.bind_some, if_neg (nI_ge hs2 (by omega)), m_live hhu g0 g1, Option.bind_some, m_has (by omega) (by omega), Option.bind_some]
    have e1 : (if (lvN hu de).testBit s then (1 : Int32) else 0) = (if ((lvN hu de).testBit s && agS P st (clr (lvN hu de) s) pt va ws 0) then 1 else 0) := by rw [show agS P st (clr (lvN hu de) s) pt va ws 0 = true by unfold agS; rfl, Bool.and_true]
    have key2 := m_which_in h hs g0 g1 g2 hhu hst (show s < 8 by omega) (lp_X7_which_9 0 (nI k) plan pg a' b' c' n2) (nI (mkb (whS P st (lvN hu de) pt va ws k) s)) 1000 0 (Nat.zero_le _) (by omega)
    rw [← e1] at key2
    refine Eq.trans key2 ?_
    unfold bk_X7_which_79
    rw [kb_bit s (by omega), fa_or, mkb_or, show (0 : Int32) = nI 0 from rfl, fa_or, Nat.or_zero]
    simp only [nm_, nI_1]
    have eb : mkb (whS P st (lvN hu de) pt va ws k) (s + 1) = mkb (whS P st (lvN hu de) pt va ws k) s + (if whS P st (lvN hu de) pt va ws k s then 2 ^ s else 0) := rfl
    rw [eb]
    cases whS P st (lvN hu de) pt va ws k s with
    | false => rw [if_pos (by rfl), if_neg (by decide)]; rfl
    | true => rw [if_neg (by decide), if_pos rfl]
end WH
