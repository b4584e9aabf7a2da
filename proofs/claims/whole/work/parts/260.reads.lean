/-! WHAT BOTH SIDES TELL -/
section RE
variable {P : Nat → Nat} {plan tb sp po wa ac bL W : Nat → Int32} {k : Nat} {pg : Nat → Int32} {hu de st : Nat} {wt : Nat → Nat}
theorem c_see {pt va ws : Nat → Nat} {a b c a' b' c' : Nat → Int32} (h : plI P plan) (hs : seI k pt va ws a b c a' b' c') (th p1 p2 p3 : Int32) : ∃ r k' pt' va' ws' x y z x' y' z', f_X6_see (nI (P 12)) (nI k) a b c p1 p2 p3 = some (r, nI k', x, y, z) ∧ f_X7_see th (nI k) plan a' b' c' p1 p2 p3 = some (r, 0, nI k', x', y', z') ∧ seI k' pt' va' ws' x y z x' y' z' := by
  have h6 := h.2.2.1
  obtain ⟨hk, hq⟩ := id hs
  unfold f_X6_see f_X7_see
  rw [m_noPoint h, Option.bind_some, m_in32 p2 0 999 (a' := 0) (b' := 999) rfl rfl, Option.bind_some, m_in32 p3 0 1 (a' := 0) (b' := 1) rfl rfl, Option.bind_some]
  simp only [kz_b01i]
  rcases a_ix (n := P 12) (by omega) p1 with ⟨b0, hb, rfl⟩ | ⟨_, q1, _, q4⟩
  · rw [if_pos ((kz_in1 (by omega) _).mpr ⟨b0, hb, rfl⟩), if_pos rfl, x_hasPoint (by omega) (by omega), Option.bind_some, if_pos hb, if_neg (show ¬ (1 : Int32) = 0 by decide)]
    rcases pk_ix p2 (n := 1000) (by omega) with q | q | ⟨v, hv, rfl⟩
    · rw [if_pos q, if_pos (fun z => by have := (fa_le _ _).mp z.1; rw [fa_lt] at q; omega)]
      exact ⟨_, k, pt, va, ws, _, _, _, _, _, _, rfl, rfl, hs⟩
    · have c2 : 999 < p2 := by rw [fa_le] at q; rw [nI_toInt (by omega)] at q; rw [fa_lt]; have : (999 : Int32).toInt = 999 := rfl; omega
      have c1 : ¬ p2 < 0 := by rw [fa_lt] at *; have : (999 : Int32).toInt = 999 := rfl; have : (0 : Int32).toInt = 0 := rfl; omega
      rw [if_neg c1, if_pos c2, if_pos (fun z => by have := (fa_le _ _).mp z.2; rw [fa_lt] at c2; omega)]
      exact ⟨_, k, pt, va, ws, _, _, _, _, _, _, rfl, rfl, hs⟩
    · have c2 : nI v ≤ (999 : Int32) := nI_le (b := 999) (by omega) (by omega)
      have c1 : (0 : Int32) ≤ nI v := nI_le (a := 0) (by omega) (by omega)
      rw [if_neg (show ¬ nI v < 0 from nI_pos (by omega)), if_neg (show ¬ (999 : Int32) < nI v from nI_nlt (a := 999) (by omega) (by omega)), if_neg (show ¬ ¬ ((0 : Int32) ≤ nI v ∧ nI v ≤ 999) from fun z => z ⟨c1, c2⟩)]
      rcases pk_ix p3 (n := 2) (by omega) with q | q | ⟨w, hw, rfl⟩
      · rw [if_pos q, if_pos (fun z => by have := (fa_le _ _).mp z.1; rw [fa_lt] at q; omega)]
        exact ⟨_, k, pt, va, ws, _, _, _, _, _, _, rfl, rfl, hs⟩
      · have c4 : ¬ p3 ≤ 1 := by rw [fa_le] at *; rw [nI_toInt (by omega)] at q; have : (1 : Int32).toInt = 1 := rfl; omega
        have c3 : ¬ p3 < 0 := by rw [fa_le] at *; rw [fa_lt]; rw [nI_toInt (by omega)] at q; have : (0 : Int32).toInt = 0 := rfl; omega
        rw [if_neg c3, if_neg c4, if_pos (fun z => c4 z.2)]
        exact ⟨_, k, pt, va, ws, _, _, _, _, _, _, rfl, rfl, hs⟩
      · have c4 : nI w ≤ (1 : Int32) := nI_le (b := 1) (by omega) (by omega)
        have c3 : (0 : Int32) ≤ nI w := nI_le (a := 0) (by omega) (by omega)
        rw [if_neg (show ¬ nI w < 0 from nI_pos (by omega)), if_pos c4, if_neg (show ¬ ¬ ((0 : Int32) ≤ nI w ∧ nI w ≤ 1) from fun z => z ⟨c3, c4⟩)]
        have ew : (if nI w = 1 then bk_X6_see_52 (nI k) a b c 1 (nI v) (nI b0) else bk_X6_see_52 (nI k) a b c 0 (nI v) (nI b0)) = bk_X6_see_52 (nI k) a b c (nI w) (nI v) (nI b0) := by
          rcases (show w = 0 ∨ w = 1 by omega) with rfl | rfl
          · rw [if_neg (by decide)]; rfl
          · rw [if_pos (show nI 1 = (1 : Int32) from rfl)]; rfl
        have en : vp_nar .boolean (nI w) = nI w := by
          rcases (show w = 0 ∨ w = 1 by omega) with rfl | rfl <;> rfl
        rw [ew]
        unfold bk_X6_see_52 f_X3_add
        rcases Nat.lt_or_ge k 6 with z | z
        · rw [if_neg (show ¬ nI k < 0 from nI_pos (by omega)), if_pos (show nI k < (6 : Int32) from nI_lt (b := 6) z (by omega)), if_neg (show ¬ nI k = (6 : Int32) from fun e => by have := (nI_eq (b := 6) (by omega) (by omega)).mp e; omega), kz_ix z (by omega), kz_ix z (by omega), kz_ix z (by omega), kz_ix z (by omega), kz_ix z (by omega), kz_ix z (by omega), kz_cl (by omega), nI_1, nmE, nmE, en, Option.bind_some]
          refine ⟨_, k + 1, fun i => if i = k then b0 else pt i, fun i => if i = k then v else va i, fun i => if i = k then w else ws i, _, _, _, _, _, _, rfl, rfl, by omega, fun i hi => ?_⟩
          dsimp only
          by_cases e : i = k
          · subst e
            simp only [pk_us, if_true]
            exact ⟨⟨trivial, trivial, by omega⟩, ⟨trivial, trivial, by omega⟩, trivial, trivial, by omega⟩
          · simp only [if_neg e]
            rw [pk_un e, pk_un e, pk_un e, pk_un e, pk_un e, pk_un e]
            exact hq i (by omega)
        · have : k = 6 := by omega
          subst this
          rw [if_neg (show ¬ nI 6 < (0 : Int32) by decide), if_neg (show ¬ nI 6 < (6 : Int32) by decide), if_pos (show nI 6 = (6 : Int32) from rfl), Option.bind_some]
          exact ⟨_, 6, pt, va, ws, _, _, _, _, _, _, rfl, rfl, hs⟩
  · rw [if_neg q4, if_neg (show ¬ (1 : Int32) = 0 by decide), q1, Option.bind_some, if_pos rfl]
    exact ⟨_, k, pt, va, ws, _, _, _, _, _, _, rfl, rfl, hs⟩
theorem c_light (h : plI P plan) (hr : raI P ac bL) (hv : vaI P hu de st wt) (hg : pgI hu de st wt pg) (th p1 p2 : Int32) : ∃ r, f_X6_light (nI (P 11)) (nI (P 12)) ac bL (nI st) p1 p2 = some r ∧ f_X7_light th plan pg p1 p2 = some (r, 0) := by
  have h8 := h.2.1
  have h6 := h.2.2.1
  have h5 := h.2.2.2
  have hp3 := pw_le (n := P 13) (by omega)
  have v4 := hv.2.2.2.1
  unfold f_X6_light f_X7_light
  rw [m_noSpot h, Option.bind_some, m_noPoint h, Option.bind_some]
  rcases a_ix (n := P 11) (by omega) p1 with ⟨b, hb, rfl⟩ | ⟨q1, _, _, q4⟩
  · rw [if_pos ((kz_in1 (by omega) _).mpr ⟨b, hb, rfl⟩), if_pos rfl, x_hasSpot (by omega) (by omega), Option.bind_some, if_pos hb, if_neg (show ¬ (1 : Int32) = 0 by decide)]
    rcases a_ix (n := P 12) (by omega) p2 with ⟨c, hc, rfl⟩ | ⟨_, q1, _, q4⟩
    · rw [if_pos ((kz_in1 (by omega) _).mpr ⟨c, hc, rfl⟩), if_pos rfl, x_hasPoint (by omega) (by omega), Option.bind_some, if_pos hc, if_neg (show ¬ (1 : Int32) = 0 by decide), x_lightOf h hr (by omega) hb hc, Option.bind_some, show Int32.toNatClampNeg 2 = 2 from rfl, hg.2.2.1, m_lightBy h (by omega) hb hc, Option.bind_some]
      exact ⟨_, rfl, rfl⟩
    · rw [if_neg q4, if_neg (show ¬ (1 : Int32) = 0 by decide), q1, Option.bind_some, if_pos rfl]
      exact ⟨_, rfl, rfl⟩
  · rw [if_neg q4, if_neg (show ¬ (1 : Int32) = 0 by decide), q1, Option.bind_some, if_pos rfl]
    exact ⟨_, rfl, rfl⟩
theorem x_ntz : ∀ a, a < 32 → a ≠ 0 → f_J6_numberOfTrailingZeros (nI a) = some (nI (fa_first (fun i => a.testBit i) 5)) := by decide +kernel
theorem ff_eq {f g : Nat → Bool} {m n : Nat} (hm : fa_first f m < m) (hn : fa_first g n < n) (e : ∀ i, i < m → i < n → f i = g i) (e1 : ∀ i, f i = true → i < n) (e2 : ∀ i, g i = true → i < m) : fa_first f m = fa_first g n := by
  have y1 := fa_first_yes f m hm
  have y2 := fa_first_yes g n hn
  rcases Nat.lt_trichotomy (fa_first f m) (fa_first g n) with z | z | z
  · have := fa_first_no g n _ z
    rw [← e _ hm (by omega), y1] at this
    cases this
  · exact z
  · have := fa_first_no f m _ z
    rw [e _ (by omega) hn, y2] at this
    cases this
theorem c_shade (h : plI P plan) (hr : raI P ac bL) (hv : vaI P hu de st wt) (hg : pgI hu de st wt pg) (th p1 p2 : Int32) : ∃ r, f_X6_shade (nI (P 11)) (nI (P 12)) ac (nI st) p1 p2 = some r ∧ f_X7_shade th plan pg p1 p2 = some (r, 0) := by
  have h8 := h.2.1
  have h6 := h.2.2.1
  have h5 := h.2.2.2
  have hp3 := pw_le (n := P 13) (by omega)
  have v4 := hv.2.2.2.1
  unfold f_X6_shade f_X7_shade
  rw [m_noSpot h, Option.bind_some, m_noPoint h, Option.bind_some]
  rcases a_ix (n := P 11) (by omega) p1 with ⟨b, hb, rfl⟩ | ⟨q1, _, _, q4⟩
  · rw [if_pos ((kz_in1 (by omega) _).mpr ⟨b, hb, rfl⟩), if_pos rfl, x_hasSpot (by omega) (by omega), Option.bind_some, if_pos hb, if_neg (show ¬ (1 : Int32) = 0 by decide)]
    rcases a_ix (n := P 12) (by omega) p2 with ⟨c, hc, rfl⟩ | ⟨_, q1, _, q4⟩
    · have r1 := (hr b hb c hc).1
      have hm := msk_lt h b c
      have hb2 : msk P b c &&& st < 32 := Nat.lt_of_le_of_lt Nat.and_le_left hm
      unfold f_X1_wallsAcross
      rw [if_pos ((kz_in1 (by omega) _).mpr ⟨c, hc, rfl⟩), if_pos rfl, x_hasPoint (by omega) (by omega), Option.bind_some, if_pos hc, if_neg (show ¬ (1 : Int32) = 0 by decide), x_hasSpot (by omega) (by omega), Option.bind_some, if_pos hb, if_neg (show ¬ (1 : Int32) = 0 by decide), Option.bind_some, if_neg (show ¬ (1 : Int32) = 0 by decide), show (6 : Int32) = nI 6 from rfl, pk_mul, nI_add, kz_ix (by omega) (by omega), kz_cl (by omega), r1, Option.bind_some, nmE, fa_and, show Int32.toNatClampNeg 2 = 2 from rfl, hg.2.2.1, m_shadeBy h (by omega) hb hc, Option.bind_some]
      by_cases c5 : msk P b c &&& st = 0
      · rw [c5, if_pos (show nI 0 = (0 : Int32) from rfl), if_neg (show ¬ shF P st b c < P 13 by have := shF_none.mp c5; omega)]
        exact ⟨_, rfl, rfl⟩
      · have c6 : shF P st b c < P 13 := by
          have hle : shF P st b c ≤ P 13 := fa_first_le (fun w => st.testBit w && mtB P b c w) (P 13)
          rcases Nat.lt_or_ge (shF P st b c) (P 13) with q | q
          · exact q
          · exact absurd (shF_none.mpr (by omega)) c5
        have hbit : ∀ i, (msk P b c &&& st).testBit i = (decide (i < P 13) && mtB P b c i && st.testBit i) := fun i => by
          rw [Nat.testBit_and]
          unfold msk
          rw [mkb_bit]
        have e1 : fa_first (fun i => (msk P b c &&& st).testBit i) 5 < 5 := by
          have hle := fa_first_le (fun i => (msk P b c &&& st).testBit i) 5
          rcases Nat.lt_or_ge (fa_first (fun i => (msk P b c &&& st).testBit i) 5) 5 with q | q
          · exact q
          · exfalso
            have y1 := fa_first_yes (fun w => st.testBit w && mtB P b c w) (P 13) c6
            have n1 := fa_first_no (fun i => (msk P b c &&& st).testBit i) 5 (shF P st b c) (by omega)
            rw [Bool.and_eq_true] at y1
            have n2 : (msk P b c &&& st).testBit (shF P st b c) = false := n1
            rw [hbit] at n2
            have y2 : mtB P b c (shF P st b c) = true := y1.2
            have y3 : st.testBit (shF P st b c) = true := y1.1
            rw [y2, y3, decide_eq_true c6] at n2
            cases n2
        have e2 : fa_first (fun i => (msk P b c &&& st).testBit i) 5 = shF P st b c := by
          refine ff_eq e1 c6 (fun i hi hi2 => ?_) (fun i hi => ?_) (fun i hi => ?_)
          · rw [hbit, decide_eq_true hi2, Bool.true_and, Bool.and_comm]
          · rw [hbit, Bool.and_eq_true, Bool.and_eq_true, decide_eq_true_eq] at hi
            exact hi.1.1
          · rw [Bool.and_eq_true] at hi
            rcases Nat.lt_or_ge i 5 with q | q
            · exact q
            · have : st.testBit i = false := Nat.testBit_lt_two_pow (Nat.lt_of_lt_of_le v4 (Nat.pow_le_pow_right (by decide) (by omega)))
              rw [this] at hi
              exact absurd hi.1 (by decide)
        rw [if_neg (nI_ne0 (by omega) (by omega)), x_ntz _ hb2 c5, Option.bind_some, e2, if_pos c6]
        exact ⟨_, rfl, rfl⟩
    · rw [if_neg q4, if_neg (show ¬ (1 : Int32) = 0 by decide), q1, Option.bind_some, if_pos rfl]
      exact ⟨_, rfl, rfl⟩
  · rw [if_neg q4, if_neg (show ¬ (1 : Int32) = 0 by decide), q1, Option.bind_some, if_pos rfl]
    exact ⟨_, rfl, rfl⟩
theorem c_best (h : plI P plan) (h2 : ptI P tb sp po wa) (hr : raI P ac bL) (hv : vaI P hu de st wt) (hW : wtI wt W) (hg : pgI hu de st wt pg) (V S : Nat → Int32) (th b0 p1 p2 : Int32) : ∃ r V' S' bs, f_X6_best (nI (P 10)) (nI (P 11)) (nI (P 12)) sp ac bL (nI st) W V S p1 p2 = some (r, V', S') ∧ f_X7_best th b0 plan pg p1 p2 = some (r, 0, bs) := by
  have h8 := h.2.1
  have h5 := h.2.2.2
  have hp2 := pw_le h8
  have hp3 := pw_le (n := P 13) (by omega)
  obtain ⟨v1, v2, v3, v4, v5⟩ := id hv
  obtain ⟨g0, g1, g2, g3⟩ := id hg
  unfold f_X6_best f_X7_best
  rw [m_in32 p1 0 2 (a' := 0) (b' := 2) rfl rfl, Option.bind_some, m_in32 p2 0 2 (a' := 0) (b' := 2) rfl rfl, Option.bind_some]
  simp only [kz_b01i]
  rcases pk_ix p1 (n := 3) (by omega) with q | q | ⟨x, hx, rfl⟩
  · rw [if_pos q, if_pos (fun z => by have := (fa_le _ _).mp z.1; rw [fa_lt] at q; omega)]
    exact ⟨_, _, _, _, rfl, rfl⟩
  · have c2 : 2 < p1 := by rw [fa_le] at q; rw [nI_toInt (by omega)] at q; rw [fa_lt]; have : (2 : Int32).toInt = 2 := rfl; omega
    have c1 : ¬ p1 < 0 := by rw [fa_lt] at *; have : (2 : Int32).toInt = 2 := rfl; have : (0 : Int32).toInt = 0 := rfl; omega
    rw [if_neg c1, if_pos c2, if_pos (fun z => by have := (fa_le _ _).mp z.2; rw [fa_lt] at c2; omega)]
    exact ⟨_, _, _, _, rfl, rfl⟩
  · have c2 : nI x ≤ (2 : Int32) := nI_le (b := 2) (by omega) (by omega)
    have c1 : (0 : Int32) ≤ nI x := nI_le (a := 0) (by omega) (by omega)
    rw [if_neg (show ¬ nI x < 0 from nI_pos (by omega)), if_neg (show ¬ (2 : Int32) < nI x from nI_nlt (a := 2) (by omega) (by omega)), if_neg (show ¬ ¬ ((0 : Int32) ≤ nI x ∧ nI x ≤ 2) from fun z => z ⟨c1, c2⟩)]
    rcases pk_ix p2 (n := 3) (by omega) with q | q | ⟨y, hy, rfl⟩
    · rw [if_pos q, if_pos (fun z => by have := (fa_le _ _).mp z.1; rw [fa_lt] at q; omega)]
      exact ⟨_, _, _, _, rfl, rfl⟩
    · have c4 : ¬ p2 ≤ 2 := by rw [fa_le] at *; rw [nI_toInt (by omega)] at q; have : (2 : Int32).toInt = 2 := rfl; omega
      have c3 : ¬ p2 < 0 := by rw [fa_le] at *; rw [fa_lt]; rw [nI_toInt (by omega)] at q; have : (0 : Int32).toInt = 0 := rfl; omega
      rw [if_neg c3, if_neg c4, if_pos (fun z => c4 z.2)]
      exact ⟨_, _, _, _, rfl, rfl⟩
    · have c4 : nI y ≤ (2 : Int32) := nI_le (b := 2) (by omega) (by omega)
      have c3 : (0 : Int32) ≤ nI y := nI_le (a := 0) (by omega) (by omega)
      obtain ⟨V', S', ew, hV⟩ := x_weigh h hr hW v5 (show st < 256 by omega) V S
      rw [if_neg (show ¬ nI y < 0 from nI_pos (by omega)), if_pos c4, if_neg (show ¬ ¬ ((0 : Int32) ≤ nI y ∧ nI y ≤ 2) from fun z => z ⟨c3, c4⟩), ew, Option.bind_some, un2E, x_choose h h2 hV (by omega), Option.bind_some, m_layBest h g3 v5 g2 (by omega) (by omega), Option.bind_some, bst_cong (fun a b => rk_iff h x a b)]
      cases e : bst (cdS P wt st x) (rkM P x) (2 ^ P 11) with
      | none =>
        rw [show oI none = (-9 : Int32) from rfl, if_pos rfl, if_pos rfl]
        exact ⟨_, _, _, _, rfl, rfl⟩
      | some t =>
        have ht := bst_lt _ _ _ _ e
        rw [show oI (some t) = nI t from rfl, if_neg (show ¬ nI t = (-9 : Int32) from by rw [kz_m9 (by omega)]; exact id), if_neg (show ¬ nI t = (-9 : Int32) from by rw [kz_m9 (by omega)]; exact id), x_price h h2 (by omega), m_price h (by omega), x_bitCount t (by omega), m_ones t (by omega)]
        rcases (show y = 0 ∨ y = 1 ∨ y = 2 by omega) with rfl | rfl | rfl
        · exact ⟨_, _, _, _, rfl, rfl⟩
        · exact ⟨_, _, _, _, rfl, rfl⟩
        · exact ⟨_, _, _, _, rfl, rfl⟩
end RE
