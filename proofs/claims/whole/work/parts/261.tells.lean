/-! SPOT, POINT, COUNT -/
theorem ite_ix {α : Type} (x : Int32) (k : Nat) (hk : k < 100) (A B : α) (h : x = nI k) : (if x = nI k then A else B) = A := if_pos h
section TE
variable {P : Nat → Nat} {plan tb sp po wa ac bL W : Nat → Int32} {k : Nat} {pg : Nat → Int32} {hu de st : Nat} {wt : Nat → Nat}
theorem c_spot (h : plI P plan) (h2 : ptI P tb sp po wa) (hv : vaI P hu de st wt) (hg : pgI hu de st wt pg) (th p1 p2 : Int32) : ∃ r, f_X6_spot (nI (P 11)) sp (nI hu) (nI de) p1 p2 = some r ∧ f_X7_spot th plan pg p1 p2 = some (r, 0) := by
  have h8 := h.2.1
  have hp2 := pw_le h8
  obtain ⟨v1, v2, v3, v4, v5⟩ := id hv
  obtain ⟨g0, g1, g2, g3⟩ := id hg
  unfold f_X6_spot f_X7_spot
  rw [m_noSpot h, Option.bind_some, m_in32 p2 0 3 (a' := 0) (b' := 3) rfl rfl, Option.bind_some]
  simp only [kz_b01i]
  rcases a_ix (n := P 11) (by omega) p1 with ⟨b, hb, rfl⟩ | ⟨q1, _, _, q4⟩
  · rw [if_pos ((kz_in1 (by omega) _).mpr ⟨b, hb, rfl⟩), if_pos rfl, x_hasSpot (by omega) (by omega), Option.bind_some, if_pos hb, if_neg (show ¬ (1 : Int32) = 0 by decide)]
    rcases pk_ix p2 (n := 5) (by omega) with q | q | ⟨j, hj, rfl⟩
    · have c1 : ¬ p2 = 4 := fun e => by rw [e] at q; exact absurd q (by decide)
      rw [if_pos q, if_neg c1, if_pos (fun z => by have := (fa_le _ _).mp z.1; rw [fa_lt] at q; omega)]
      exact ⟨_, rfl, rfl⟩
    · have c4 : ¬ p2 ≤ 4 := by rw [fa_le] at *; rw [nI_toInt (by omega)] at q; have : (4 : Int32).toInt = 4 := rfl; omega
      have c3 : ¬ p2 < 0 := by rw [fa_le] at *; rw [fa_lt]; rw [nI_toInt (by omega)] at q; have : (0 : Int32).toInt = 0 := rfl; omega
      have c1 : ¬ p2 = 4 := fun e => by rw [e] at c4; exact absurd c4 (by decide)
      rw [if_neg c3, if_neg c4, if_neg c1, if_pos (fun z => c4 (by have := z.2; rw [fa_le] at *; have : (4 : Int32).toInt = 4 := rfl; have : (3 : Int32).toInt = 3 := rfl; omega))]
      exact ⟨_, rfl, rfl⟩
    · have c4 : nI j ≤ (4 : Int32) := nI_le (b := 4) (by omega) (by omega)
      rw [if_neg (show ¬ nI j < 0 from nI_pos (by omega)), if_pos c4]
      have e4 : (nI j = (4 : Int32)) = (j = 4) := kz_eq (b := 4) (by omega) (by omega)
      simp only [e4]
      by_cases c : j = 4
      · rw [if_pos c, if_pos c, x_lampAt (by omega) (by omega) (by omega), Option.bind_some, show Int32.toNatClampNeg 0 = 0 from rfl, show Int32.toNatClampNeg 1 = 1 from rfl, g0, g1, bit_ans _ (by omega) (by omega), bit_ans _ (by omega) (by omega)]
        refine ⟨_, rfl, ?_⟩
        unfold lmN
        cases e1 : hu.testBit b with
        | false =>
          have e2 : de.testBit b = false := by
            cases e : de.testBit b with
            | false => rfl
            | true => rw [v2 b e] at e1; cases e1
          rw [e2]
          rfl
        | true => cases de.testBit b <;> rfl
      · have c5 : nI j ≤ (3 : Int32) := nI_le (b := 3) (by omega) (by omega)
        have c6 : (0 : Int32) ≤ nI j := nI_le (a := 0) (by omega) (by omega)
        rw [if_neg c, if_neg c, if_neg (show ¬ ¬ ((0 : Int32) ≤ nI j ∧ nI j ≤ 3) from fun z => z ⟨c6, c5⟩), x_spotF h h2 hb (by omega), Option.bind_some, show (4 : Int32) * nI b = nI (4 * b) from pk_mul 4 b, show (14 : Int32) + nI (4 * b) = nI (14 + 4 * b) from nI_add 14 _, nI_add, kz_ix (by omega) (by omega), kz_cl (by omega), (h.1 (14 + 4 * b + j) (by omega)).1]
        exact ⟨_, rfl, rfl⟩
  · rw [if_neg q4, if_neg (show ¬ (1 : Int32) = 0 by decide), q1, Option.bind_some, if_pos rfl]
    exact ⟨_, rfl, rfl⟩
theorem c_point (h : plI P plan) (h2 : ptI P tb sp po wa) (hr : raI P ac bL) (hv : vaI P hu de st wt) (hW : wtI wt W) (hg : pgI hu de st wt pg) (V S : Nat → Int32) (th p1 p2 : Int32) : ∃ r V' S', f_X6_point (nI (P 10)) (nI (P 11)) (nI (P 12)) sp po ac bL (nI hu) (nI de) (nI st) W V S p1 p2 = some (r, V', S') ∧ f_X7_point th plan pg p1 p2 = some (r, 0) := by
  have h8 := h.2.1
  have h6 := h.2.2.1
  have h5 := h.2.2.2
  have hp2 := pw_le h8
  have hp3 := pw_le (n := P 13) (by omega)
  obtain ⟨v1, v2, v3, v4, v5⟩ := id hv
  obtain ⟨g0, g1, g2, g3⟩ := id hg
  have hl := lvN_le hu de
  unfold f_X6_point f_X7_point f_X2_isServed f_X2_sumOf
  rw [m_noPoint h, Option.bind_some]
  rcases a_ix (n := P 12) (by omega) p1 with ⟨b, hb, rfl⟩ | ⟨_, q1, _, q4⟩
  · have bs := smS_le h (lvN hu de) st b
    have bw := v5 b (by omega)
    obtain ⟨V', S', ew, hV⟩ := x_weigh h hr hW v5 (show st < 256 by omega) V S
    rw [if_pos ((kz_in1 (by omega) _).mpr ⟨b, hb, rfl⟩), if_pos rfl, x_hasPoint (by omega) (by omega), Option.bind_some, if_pos hb, if_neg (show ¬ (1 : Int32) = 0 by decide), m_live (by omega) g0 g1, Option.bind_some, show Int32.toNatClampNeg 2 = 2 from rfl, g2, m_sumBy h (by omega) (by omega) hb, Option.bind_some]
    by_cases c0 : p2 = 0
    · subst c0
      have sf := x_pointF h h2 hb (j := 0) (by omega)
      rw [show nI 0 = (0 : Int32) from rfl] at sf
      rw [if_pos rfl, if_pos rfl, sf, Option.bind_some, show (2 : Int32) * nI b = nI (2 * b) from pk_mul 2 b, show (46 : Int32) + nI (2 * b) = nI (46 + 2 * b) from nI_add 46 _, show nI (46 + 2 * b) + 0 = nI (46 + 2 * b + 0) from nI_add _ 0, kz_ix (by omega) (by omega), kz_cl (by omega), (h.1 (46 + 2 * b + 0) (by omega)).1]
      exact ⟨_, _, _, rfl, rfl⟩
    rw [if_neg c0, if_neg c0]
    by_cases c1 : p2 = 1
    · subst c1
      have sf := x_pointF h h2 hb (j := 1) (by omega)
      rw [show nI 1 = (1 : Int32) from rfl] at sf
      rw [if_pos rfl, if_pos rfl, sf, Option.bind_some, show (2 : Int32) * nI b = nI (2 * b) from pk_mul 2 b, show (46 : Int32) + nI (2 * b) = nI (46 + 2 * b) from nI_add 46 _, show nI (46 + 2 * b) + 1 = nI (46 + 2 * b + 1) from nI_add _ 1, kz_ix (by omega) (by omega), kz_cl (by omega), (h.1 (46 + 2 * b + 1) (by omega)).1]
      exact ⟨_, _, _, rfl, rfl⟩
    rw [if_neg c1, if_neg c1, show (3 : Int32) + nI b = nI (3 + b) from nI_add 3 b, kz_ix (by omega) (by omega), kz_ix (by omega) (by omega), kz_cl (by omega), g3 b (by omega), x_wantOf hW (by omega), Option.bind_some, x_live (by omega), Option.bind_some, x_sumAt h hr (by omega) (by omega) hb, Option.bind_some, m_floorOf h g3 v5 g2 (by omega) hb, ew]
    by_cases c2 : p2 = 2
    · rw [if_pos c2, if_pos c2]
      exact ⟨_, _, _, rfl, rfl⟩
    rw [if_neg c2, if_neg c2]
    by_cases c3 : p2 = 3
    · rw [if_pos c3, if_pos c3, Option.bind_some]
      exact ⟨_, _, _, rfl, rfl⟩
    rw [if_neg c3, if_neg c3]
    by_cases c4 : p2 = 4
    · rw [if_pos c4, if_pos c4]
      simp only [Option.bind_some]
      by_cases c : nI (smS P (lvN hu de) st b) < nI (wt b)
      · rw [if_pos c, if_pos c]
        exact ⟨_, _, _, rfl, rfl⟩
      · rw [if_neg c, if_neg c]
        exact ⟨_, _, _, rfl, rfl⟩
    rw [if_neg c4, if_neg c4]
    by_cases c5 : p2 = 5
    · rw [if_pos c5, if_pos c5, Option.bind_some, un2E, x_least h h2 hV hb, Option.bind_some, Option.bind_some]
      exact ⟨_, _, _, rfl, rfl⟩
    rw [if_neg c5, if_neg c5]
    exact ⟨_, _, _, rfl, rfl⟩
  · rw [if_neg q4, if_neg (show ¬ (1 : Int32) = 0 by decide), q1, Option.bind_some, if_pos rfl]
    exact ⟨_, _, _, rfl, rfl⟩
theorem c_count (h : plI P plan) (hr : raI P ac bL) (hv : vaI P hu de st wt) (hW : wtI wt W) (hg : pgI hu de st wt pg) (n k se th p1 : Int32) : ∃ r, f_X6_count n (nI (P 10)) (nI (P 11)) (nI (P 12)) (nI (P 13)) ac bL (nI hu) (nI de) (nI st) W k se p1 = some r ∧ f_X7_count th n k se plan pg p1 = some (r, 0) := by
  have h8 := h.2.1
  have h5 := h.2.2.2
  have hp2 := pw_le h8
  have hp3 := pw_le (n := P 13) (by omega)
  obtain ⟨v1, v2, v3, v4, v5⟩ := id hv
  obtain ⟨g0, g1, g2, g3⟩ := id hg
  have hl := lvN_le hu de
  unfold f_X6_count f_X7_count f_X7_spots f_X7_points f_X7_walls
  rw [show Int32.toNatClampNeg 0 = 0 from rfl, show Int32.toNatClampNeg 1 = 1 from rfl, show Int32.toNatClampNeg 2 = 2 from rfl, show Int32.toNatClampNeg 10 = 10 from rfl, show Int32.toNatClampNeg 11 = 11 from rfl, show Int32.toNatClampNeg 12 = 12 from rfl, show Int32.toNatClampNeg 13 = 13 from rfl, (h.1 10 (by omega)).1, (h.1 11 (by omega)).1, (h.1 12 (by omega)).1, (h.1 13 (by omega)).1, m_live (by omega) g0 g1, g0, g1, g2, x_live (by omega)]
  simp only [Option.bind_some]
  rw [x_served h hr hW v5 (by omega) (by omega), m_served_page h g3 v5 (by omega) (by omega)]
  simp only [Option.bind_some]
  by_cases c0 : p1 = 0
  · rw [if_pos c0, if_pos c0]; exact ⟨_, rfl, rfl⟩
  rw [if_neg c0, if_neg c0]
  by_cases c1 : p1 = 1
  · rw [if_pos c1, if_pos c1]; exact ⟨_, rfl, rfl⟩
  rw [if_neg c1, if_neg c1]
  by_cases c2 : p1 = 2
  · rw [if_pos c2, if_pos c2]; exact ⟨_, rfl, rfl⟩
  rw [if_neg c2, if_neg c2]
  by_cases c3 : p1 = 3
  · rw [if_pos c3, if_pos c3]; exact ⟨_, rfl, rfl⟩
  rw [if_neg c3, if_neg c3]
  by_cases c4 : p1 = 4
  · rw [if_pos c4, if_pos c4]; exact ⟨_, rfl, rfl⟩
  rw [if_neg c4, if_neg c4]
  by_cases c5 : p1 = 5
  · rw [if_pos c5, if_pos c5]; exact ⟨_, rfl, rfl⟩
  rw [if_neg c5, if_neg c5]
  by_cases c6 : p1 = 6
  · rw [if_pos c6, if_pos c6]; exact ⟨_, rfl, rfl⟩
  rw [if_neg c6, if_neg c6]
  by_cases c7 : p1 = 7
  · rw [if_pos c7, if_pos c7]; exact ⟨_, rfl, rfl⟩
  rw [if_neg c7, if_neg c7]
  by_cases c8 : p1 = 8
  · rw [if_pos c8, if_pos c8]; exact ⟨_, rfl, rfl⟩
  rw [if_neg c8, if_neg c8]
  by_cases c9 : p1 = 9
  · rw [if_pos c9, if_pos c9]; exact ⟨_, rfl, rfl⟩
  rw [if_neg c9, if_neg c9]
  by_cases c10 : p1 = 10
  · rw [if_pos c10, if_pos c10]; exact ⟨_, rfl, rfl⟩
  rw [if_neg c10, if_neg c10]
  exact ⟨_, rfl, rfl⟩
end TE
