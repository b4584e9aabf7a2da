/-! THE EVENNESS, IN FLOATS -/
theorem even_bits (a b : Nat) (hab : a ≤ b) (h0 : 0 < b) (hb : b ≤ 657) : ∃ r, bk_X6_evenness_48 (nI a) (nI b) = some r ∧ bk_X7_even_71 (nI a) (nI b) = some r := by
  sorry
