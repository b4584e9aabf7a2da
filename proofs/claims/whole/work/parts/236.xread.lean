/-! THE CLASS READS A PLAN -/
section XR
variable {T : Nat → Int32} {c : Nat → Nat} {n : Nat}
/-- a figure of a part that is right -/
theorem fit_dig {k r : Nat} (hr : r < 4) (h0 : fitS c (12 + 5 * k) = true) (h1 : fitS c (13 + 5 * k + r) = true) : 48 ≤ c (13 + 5 * k + r) ∧ c (13 + 5 * k + r) ≤ 57 := by
  rw [fit_b] at h0
  have key : ∀ lo hi, lo ≤ 1 → hi ≤ 9 → inR c (13 + 5 * k + r) lo hi = true → 48 ≤ c (13 + 5 * k + r) ∧ c (13 + 5 * k + r) ≤ 57 := fun lo hi h2 h3 h4 => by
    unfold inR at h4
    have := of_decide_eq_true h4
    omega
  rcases moP_cases (of_decide_eq_true h0) with ⟨x1, _⟩ | ⟨x1, _⟩ | ⟨x1, _⟩
  · rw [fit_s hr x1] at h1
    exact key _ _ (by split <;> omega) (by split <;> omega) h1
  · rw [fit_f hr x1] at h1
    exact key _ _ (by omega) (by split <;> omega) h1
  · rw [fit_w hr x1, Bool.and_eq_true] at h1
    exact key _ _ (by omega) (by omega) h1.1
def prI (c : Nat → Nat) (x k : Nat) (B : Nat → Int32) : Prop := ∀ k', k' < k → c (12 + 5 * k') = x → ∀ j, j < 4 → B (4 * cnP c x k' + j) = nI (c (13 + 5 * k' + j) - 48)
theorem x_parts (h : holdT T c n) {K x nB : Nat} (hn5 : n = 12 + 5 * K) (hfit : ∀ i, i < n → fitS c i = true) (hx : x < 256) (hB : 4 * cnP c x K ≤ nB) (hB2 : nB ≤ 100) : ∀ (n2 k : Nat) (B : Nat → Int32), k ≤ K → prI c x k B → 100 - k < n2 → ∃ B', lp_X1_readParts_6 nB (nI n) T (nI x) n2 B (nI (4 * cnP c x k)) (nI (12 + 5 * k)) = some (nI (cnP c x K), B') ∧ prI c x K B' := by
  have hn := h.1
  intro n2
  induction n2 with
  | zero => intro k B _ _ hf; omega
  | succ n2 ih =>
    intro k B hk hI hf
    rw [le_X1_readParts_6]
    unfold bk_X1_readParts_6
    have hcK : cnP c x k ≤ cnP c x K := fb_ct_mono _ hk
    have hck := cnP_le c x K
    rcases Nat.lt_or_ge k K with hk2 | hk2
    · have a1 := (h.2 (12 + 5 * k) (by omega)).2
      rw [if_neg (nI_ge (by omega) (by omega)), x_letterAt h (by omega)]
      simp (disch := omega) only [Option.bind_some, kz_eq, nm_, show (5 : Int32) = nI 5 from rfl, nI_add, show (4 : Int32) = nI 4 from rfl]
      have es := cnP_s c x k
      by_cases e : c (12 + 5 * k) = x
      · rw [if_pos e] at es
        have h2 : cnP c x (k + 1) ≤ cnP c x K := fb_ct_mono _ hk2
        rw [if_pos e, if_pos (show nI (4 * cnP c x k + 4) ≤ Int32.ofNat nB from nI_le (by omega) (by omega))]
        have inner := lp_up1 (fun m2 y i => lp_X1_readParts_39 (lp_X1_readParts_6 nB (nI n) T (nI x) n2) nB (nI n) T (nI x) (nI (4 * cnP c x k)) (nI (12 + 5 * k)) m2 y i) (fun j => fb_put B (fun j => nI (c (13 + 5 * k + j) - 48)) (4 * cnP c x k) j) 4 (lp_X1_readParts_6 nB (nI n) T (nI x) n2 (fb_put B (fun j => nI (c (13 + 5 * k + j) - 48)) (4 * cnP c x k) 4) (nI (4 * cnP c x (k + 1))) (nI (12 + 5 * (k + 1)))) (fun m2 => ?_) (fun m2 j hj => ?_) 1000 0 (by omega) (by omega)
        · rw [fb_put_0] at inner
          have inner : lp_X1_readParts_39 (lp_X1_readParts_6 nB (nI n) T (nI x) n2) nB (nI n) T (nI x) (nI (4 * cnP c x k)) (nI (12 + 5 * k)) 1000 B 0 = _ := inner
          rw [inner]
          refine ih (k + 1) _ hk2 ?_ (by omega)
          intro k' hk' hx' j hj
          rcases Nat.lt_or_ge k' k with z | z
          · have := cnP_lt z hx'
            rw [fb_put_out (by omega)]; exact hI k' z hx' j hj
          · have : k' = k := by omega
            subst this
            rw [fb_put_in (by omega) (by omega), show 4 * cnP c x k' + j - 4 * cnP c x k' = j by omega]
        · rw [le_X1_readParts_39]
          unfold bk_X1_readParts_39
          rw [if_pos (show (4 : Int32) ≤ nI 4 by decide)]
          simp only [nm_, show (4 : Int32) = nI 4 from rfl, show (5 : Int32) = nI 5 from rfl, nI_add]
          rw [es, show 4 * (cnP c x k + 1) = 4 * cnP c x k + 4 by omega, show 12 + 5 * (k + 1) = 12 + 5 * k + 5 by omega]
        · rw [le_X1_readParts_39]
          unfold bk_X1_readParts_39
          have hd := fit_dig hj (hfit (12 + 5 * k) (by omega)) (hfit (13 + 5 * k + j) (by omega))
          rw [if_neg (show ¬ (4 : Int32) ≤ nI j from nI_ge (b := 4) hj (by omega)), nI_1, nI_add, show 12 + 5 * k + 1 + j = 13 + 5 * k + j by omega, x_figureAt h (by omega), pk_sub (by omega), nI_add]
          simp only [Option.bind_some, nm_, nI_1]
          rw [kz_ix (by omega) (by omega), kz_cl (by omega), fb_put_succ B (fun j => nI (c (13 + 5 * k + j) - 48)) (4 * cnP c x k) j]
      · rw [if_neg e] at es
        rw [if_neg e, show 12 + 5 * k + 5 = 12 + 5 * (k + 1) by omega]
        have := ih (k + 1) B hk2 (fun k' hk' hx' j hj => ?_) (by omega)
        · rw [es, Nat.add_zero] at this; exact this
        · rcases Nat.lt_or_ge k' k with z | z
          · exact hI k' z hx' j hj
          · have : k' = k := by omega
            subst this; exact absurd hx' e
    · have : k = K := by omega
      subst this
      rw [if_pos (nI_le (by omega) (by omega)), show (4 : Int32) = nI 4 from rfl, pk_div (by omega) (by omega) (by omega), show 4 * cnP c x k / 4 = cnP c x k by omega]
      exact ⟨_, rfl, hI⟩
theorem x_readParts (h : holdT T c n) {K x nB : Nat} (hn5 : n = 12 + 5 * K) (hfit : ∀ i, i < n → fitS c i = true) (hx : x < 256) (hB : 4 * cnP c x K ≤ nB) (hB2 : nB ≤ 100) (B : Nat → Int32) : ∃ B', f_X1_readParts nB (nI n) T B (nI x) = some (nI (cnP c x K), B') ∧ prI c x K B' := by
  unfold f_X1_readParts
  exact x_parts h hn5 hfit hx hB hB2 1000 0 B (Nat.zero_le _) (fun k' hk => absurd hk (by omega)) (by omega)
theorem x_table (h : holdT T c n) (h12 : 12 ≤ n) (hfit : ∀ i, i < n → fitS c i = true) (a1 a2 a3 a4 : Int32) (b1 b2 b3 b4 b5 tb : Nat → Int32) : f_X1_read a1 a2 a3 a4 tb b1 b2 b3 b4 b5 (nI n) T = bk_X1_read_27 a1 a2 a3 a4 (fb_put tb (fun j => nI (c (1 + j) - 48)) 0 10) b1 b2 b3 b4 b5 (nI n) T := by
  have hn := h.1
  unfold f_X1_read
  have key := lp_up1 (fun n2 y i => lp_X1_read_2 a1 a2 a3 a4 b1 b2 b3 b4 b5 (nI n) T n2 y i) (fun j => fb_put tb (fun j => nI (c (1 + j) - 48)) 0 j) 10 (bk_X1_read_27 a1 a2 a3 a4 (fb_put tb (fun j => nI (c (1 + j) - 48)) 0 10) b1 b2 b3 b4 b5 (nI n) T) (fun n2 => ?_) (fun n2 j hj => ?_) 1000 0 (by omega) (by omega)
  · rw [fb_put_0] at key
    exact key
  · rw [le_X1_read_2]
    unfold bk_X1_read_2
    rw [if_pos (show (10 : Int32) ≤ nI 10 by decide)]
  · rw [le_X1_read_2]
    unfold bk_X1_read_2
    have hd : 48 ≤ c (1 + j) := by
      have := hfit (1 + j) (by omega)
      unfold fitS at this
      rw [if_neg (by omega), if_neg (by omega)] at this
      unfold inR at this
      have := of_decide_eq_true this
      omega
    rw [if_neg (show ¬ (10 : Int32) ≤ nI j from nI_ge (b := 10) hj (by omega)), show (1 : Int32) + nI j = nI (1 + j) from nI_add 1 j, x_figureAt h (by omega), pk_sub hd]
    simp only [Option.bind_some, nm_, nI_1]
    have := fb_put_succ tb (fun j => nI (c (1 + j) - 48)) 0 j
    rw [Nat.zero_add] at this
    rw [kz_ix hj (by omega), kz_cl (by omega), this]
end XR
