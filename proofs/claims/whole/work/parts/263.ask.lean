/-! ASK -/
section AS
variable {P : Nat → Nat} {plan ac bL W pg : Nat → Int32} {hu de st : Nat} {wt : Nat → Nat}
theorem c_even (h : plI P plan) (hr : raI P ac bL) (hv : vaI P hu de st wt) (hg : pgI hu de st wt pg) : ∃ r, f_X6_evenness (nI (P 10)) (nI (P 11)) (nI (P 12)) ac bL (nI hu) (nI de) (nI st) = some r ∧ f_X7_even plan pg = some r := by
  have b1 := pw_le h.2.1
  have b2 := pw_le (n := P 13) (by have := h.2.2.2; omega)
  have b3 := hv.1
  have b4 := hv.2.2.2.1
  rw [x_evenness h hr (by omega) (by omega), m_even h hg.1 hg.2.1 hg.2.2.1 (by omega) (by omega)]
  obtain ⟨q1, q2, q3⟩ := lm_mx h (lvN hu de) st (P 12)
  rcases Nat.eq_zero_or_pos (mxn P (lvN hu de) st (P 12)) with z | z
  · unfold bk_X6_evenness_48 bk_X7_even_71
    rw [z, if_pos (show nI 0 = (0 : Int32) from rfl), if_pos (show nI 0 = (0 : Int32) from rfl)]
    exact ⟨_, rfl, rfl⟩
  · have hn : ¬ P 12 = 0 := fun e => by
      rw [e] at z
      unfold mxn at z
      omega
    rw [if_neg hn]
    exact even_bits _ _ (q3 (by omega)) z q2
theorem c_ask (h : plI P plan) (hr : raI P ac bL) (hv : vaI P hu de st wt) (hW : wtI wt W) (hg : pgI hu de st wt pg) (th p1 : Int32) : ∃ r, f_X6_ask (nI (P 10)) (nI (P 11)) (nI (P 12)) (nI (P 13)) ac bL (nI hu) (nI de) (nI st) W p1 = some r ∧ f_X7_ask th plan pg p1 = some (r, 0) := by
  have b1 := pw_le h.2.1
  have b2 := pw_le (n := P 13) (by have := h.2.2.2; omega)
  obtain ⟨v1, v2, v3, v4, v5⟩ := id hv
  obtain ⟨g0, g1, g2, g3⟩ := id hg
  obtain ⟨r, e1, e2⟩ := c_even h hr hv hg
  unfold f_X6_ask f_X7_ask
  rw [x_bestSpot h hr hW v5 (by omega) v3 (by omega), m_bestSpot h g3 v5 g0 g1 g2 (by omega) v3 (by omega), x_worstWall h hr hW v5 (by omega) (by omega), m_worstWall h g3 v5 g0 g1 g2 (by omega) (by omega), e1, e2, Option.bind_some, Option.bind_some, Option.bind_some, Option.bind_some, Option.bind_some, Option.bind_some]
  by_cases c0 : p1 = 0
  · rw [if_pos c0, if_pos c0]; exact ⟨_, rfl, rfl⟩
  rw [if_neg c0, if_neg c0]
  by_cases c1 : p1 = 1
  · rw [if_pos c1, if_pos c1]; exact ⟨_, rfl, rfl⟩
  rw [if_neg c1, if_neg c1]
  by_cases c2 : p1 = 2
  · rw [if_pos c2, if_pos c2]; exact ⟨_, rfl, rfl⟩
  rw [if_neg c2, if_neg c2]
  exact ⟨_, rfl, rfl⟩
end AS
