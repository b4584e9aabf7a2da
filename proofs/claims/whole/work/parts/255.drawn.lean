/-! DRAWN -/
theorem pc_mkb (f : Nat → Bool) : ∀ n, n ≤ 7 → pcN (mkb f n) = fb_sm (fun i => if f i then 1 else 0) n
  | 0, _ => by rw [show mkb f 0 = 0 from rfl, show pcN 0 = 0 by decide]; rfl
  | n + 1, h => by
    have h7 : (2 : Nat) ^ n ≤ 64 := Nat.pow_le_pow_right (n := 2) (j := 6) (by decide) (by omega)
    have hl := mkb_lt f n
    have e : mkb f (n + 1) = mkb f n + (if f n then 2 ^ n else 0) := rfl
    rw [e, fb_sm_succ, ← pc_mkb f n (by omega)]
    cases f n with
    | false => rfl
    | true => rw [if_pos rfl, if_pos rfl, Nat.add_comm, pc_add n (by omega) _ (by omega) hl]
/-- a want drawn -/
def dvN (t : Int32) (p : Nat) : Nat := (t >>> ((5 * nI p) &&& 31)).toBitVec.toNat % 2 ^ 5
theorem dv_I (t : Int32) (p : Nat) : (t >>> ((5 * nI p) &&& 31)) &&& 31 = nI (dvN t p) := pk_and _ 5 rfl
theorem dv_lt (t : Int32) (p : Nat) : dvN t p < 32 := Nat.mod_lt _ (by decide)
/-- wants drawn for the first points -/
def wtD (wt : Nat → Nat) (t : Int32) (n : Nat) : Nat → Nat := fun k => if k < n then dvN t k else wt k
noncomputable def dcN (P : Nat → Nat) (lv st : Nat) (t : Int32) : Nat := fb_sm (fun p => if decide (dvN t p ≤ smS P lv st p) then 1 else 0) (P 12)
section DR
variable {P wt : Nat → Nat} {plan tb sp po wa ac bL W pg : Nat → Int32} {hu de st : Nat}
theorem x_drawn_in (h : plI P plan) (hr : raI P ac bL) (hhu : hu < 256) (hst : st < 256) (k18 : Int64 → Int32 → Int32 → Option (Int32 × Int64)) (sd : Int64) (n i : Int32) (t : Int32) (tot : Nat) : lp_X6_drawn_52 k18 sd (nI (P 10)) (nI (P 11)) (nI (P 12)) ac bL (nI hu) (nI de) (nI st) n i t 1000 (nI tot) 0 = k18 sd (nI (tot + dcN P (lvN hu de) st t)) (i + 1) := by
  obtain ⟨h0, h8, h6, h5⟩ := id h
  have hl := lvN_le hu de
  have key := lp_up1 (fun n2 y j => lp_X6_drawn_52 k18 sd (nI (P 10)) (nI (P 11)) (nI (P 12)) ac bL (nI hu) (nI de) (nI st) n i t n2 y j) (fun j => nI (tot + fb_sm (fun p => if decide (dvN t p ≤ smS P (lvN hu de) st p) then 1 else 0) j)) (P 12) (k18 sd (nI (tot + dcN P (lvN hu de) st t)) (i + 1)) (fun n2 => ?_) (fun n2 p hp => ?_) 1000 0 (Nat.zero_le _) (by omega)
  · exact key
  · rw [le_X6_drawn_52]
    unfold bk_X6_drawn_52
    rw [if_pos (nI_le (Nat.le_refl _) (by omega))]
    rfl
  · rw [le_X6_drawn_52]
    unfold bk_X6_drawn_52 f_X2_sumOf
    have b1 := smS_le h (lvN hu de) st p
    have b2 := dv_lt t p
    rw [if_neg (nI_ge hp (by omega)), x_live hhu, Option.bind_some, x_sumAt h hr (by omega) hst hp, Option.bind_some, Option.bind_some, dv_I, fb_sm_succ]
    simp only [nm_, nI_1]
    have e5 : (nI (smS P (lvN hu de) st p) < nI (dvN t p)) = (smS P (lvN hu de) st p < dvN t p) := kz_lt (by omega) (by omega)
    simp only [e5]
    by_cases c : smS P (lvN hu de) st p < dvN t p
    · rw [if_pos c, decide_eq_false (show ¬ dvN t p ≤ smS P (lvN hu de) st p by omega)]
      rfl
    · rw [if_neg c, decide_eq_true (show dvN t p ≤ smS P (lvN hu de) st p by omega)]
      rfl
theorem m_drawn_in (h : plI P plan) {hu de st : Nat} (hhu : hu < 256) (hst : st < 256) (hw : ∀ p, p < 6 → wt p ≤ 99) {tr : Nat → Int32} (hg : pgI hu de st wt tr) (k24 : Int64 → (Nat → Int32) → Int32 → Int32 → Option (Int32 × Int32 × Int64 × (Nat → Int32))) (sd : Int64) (n i : Int32) (t : Int32) (tot : Nat) : ∃ tr', lp_X7_drawn_69 k24 0 sd plan pg n (nI tot) i t 1000 tr 0 = k24 sd tr' (nI (tot + dcN P (lvN hu de) st t)) (i + 1) := by
  obtain ⟨h0, h8, h6, h5⟩ := id h
  obtain ⟨g0, g1, g2, g3⟩ := id hg
  have hl := lvN_le hu de
  have key := lp_up1 (fun n2 y j => lp_X7_drawn_69 k24 0 sd plan pg n (nI tot) i t n2 y j) (fun j => fb_put tr (fun p => nI (dvN t p)) 3 j) (P 12) (bk_X7_drawn_103 k24 0 sd plan pg (fb_put tr (fun p => nI (dvN t p)) 3 (P 12)) n (nI tot) i) (fun n2 => ?_) (fun n2 p hp => ?_) 1000 0 (Nat.zero_le _) (by omega)
  · rw [fb_put_0] at key
    refine ⟨fb_put tr (fun p => nI (dvN t p)) 3 (P 12), Eq.trans key ?_⟩
    have hwD : ∀ p, p < 6 → wtD wt t (P 12) p ≤ 99 := fun p hp => by
      have := dv_lt t p
      have := hw p hp
      unfold wtD
      split <;> omega
    have q3 : ∀ p, p < 6 → fb_put tr (fun p => nI (dvN t p)) 3 (P 12) (3 + p) = nI (wtD wt t (P 12) p) := fun p hp => by
      unfold wtD
      by_cases c : p < P 12
      · rw [if_pos c, fb_put_in (by omega) (by omega), show 3 + p - 3 = p by omega]
      · rw [if_neg c, fb_put_out (by omega), g3 p hp]
    have q0 : fb_put tr (fun p => nI (dvN t p)) 3 (P 12) 0 = nI hu := by rw [fb_put_out (by omega), g0]
    have q1 : fb_put tr (fun p => nI (dvN t p)) 3 (P 12) 1 = nI de := by rw [fb_put_out (by omega), g1]
    have q2 : fb_put tr (fun p => nI (dvN t p)) 3 (P 12) 2 = nI st := by rw [fb_put_out (by omega), g2]
    have hv := svS_lt (wt := wtD wt t (P 12)) h (lvN hu de) st
    unfold bk_X7_drawn_103
    rw [m_live hhu q0 q1, Option.bind_some, show Int32.toNatClampNeg 2 = 2 from rfl, q2, served_same, m_served_page h q3 hwD (by omega) (by omega), Option.bind_some, m_ones _ (by omega), Option.bind_some, nmE, nmE, nI_add]
    have ec : pcN (svS P (wtD wt t (P 12)) (lvN hu de) st) = dcN P (lvN hu de) st t := by
      unfold svS dcN
      rw [pc_mkb _ _ (by omega)]
      exact fb_sm_cong (fun k hk => by unfold wtD; rw [if_pos hk])
    rw [ec]
  · rw [le_X7_drawn_69]
    unfold bk_X7_drawn_69 f_X7_points
    rw [show Int32.toNatClampNeg 12 = 12 from rfl, (h0 12 (by omega)).1, Option.bind_some, if_pos (nI_le (Nat.le_refl _) (by omega))]
  · rw [le_X7_drawn_69]
    unfold bk_X7_drawn_69 f_X7_points
    rw [show Int32.toNatClampNeg 12 = 12 from rfl, (h0 12 (by omega)).1, Option.bind_some, if_neg (nI_ge hp (by omega)), show (3 : Int32) = nI 3 from rfl, nI_add, kz_ix (by omega) (by omega), kz_cl (by omega), dv_I]
    simp only [nm_, nI_1]
    rw [fb_put_succ tr (fun p => nI (dvN t p)) 3 p]
theorem run_drawn (h : plI P plan) (hr : raI P ac bL) (hv : vaI P hu de st wt) (hg : pgI hu de st wt pg) {n : Nat} (hn : n ≤ 20) : ∀ (n2 i tot : Nat) (sd : Int64) (tr : Nat → Int32), i ≤ n → n - i < n2 → ∃ r sd' tr', lp_X6_drawn_18 (nI (P 10)) (nI (P 11)) (nI (P 12)) ac bL (nI hu) (nI de) (nI st) (nI n) n2 sd (nI tot) (nI i) = some (r, sd') ∧ lp_X7_drawn_24 0 plan pg (nI n) n2 sd tr (nI tot) (nI i) = some (r, 0, sd', tr') := by
  obtain ⟨h0, h8, h6, h5⟩ := id h
  have hp2 := pw_le h8
  have hp3 := pw_le (n := P 13) (by omega)
  obtain ⟨v1, v2, v3, v4, v5⟩ := id hv
  intro n2
  induction n2 with
  | zero => intro i _ _ _ _ hf; omega
  | succ n2 ih =>
    intro i tot sd tr hi hf
    rw [le_X6_drawn_18, le_X7_drawn_24]
    unfold bk_X6_drawn_18 bk_X7_drawn_24
    rcases Nat.lt_or_ge i n with q | q
    · obtain ⟨tr2, e2, q2⟩ := m_copy pg tr
      obtain ⟨tr3, e3⟩ := m_drawn_in (pg := pg) h (show hu < 256 by omega) (show st < 256 by omega) v5 (pg_same hg q2) (lp_X7_drawn_24 0 plan pg (nI n) n2) (sd * 6364136223846793005 + 1442695040888963407) (nI n) (nI i) (Int64.toInt32 ((Int64.toUInt64 (sd * 6364136223846793005 + 1442695040888963407) >>> ((Int32.toInt64 33).toUInt64 &&& Int64.toUInt64 63)).toInt64)) tot
      rw [if_neg (nI_ge q (by omega)), if_neg (nI_ge q (by omega)), nmE, nmE, nmE, nmE, e2, Option.bind_some, e3, x_drawn_in h hr (by omega) (by omega), nI_1]
      exact ih (i + 1) _ _ _ q (by omega)
    · have : i = n := by omega
      subst this
      rw [if_pos (nI_le (Nat.le_refl _) (by omega)), if_pos (nI_le (Nat.le_refl _) (by omega))]
      exact ⟨_, _, _, rfl, rfl⟩
theorem c_drawn (h : plI P plan) (hr : raI P ac bL) (hv : vaI P hu de st wt) (hg : pgI hu de st wt pg) (sd : Int64) (tr : Nat → Int32) (th p1 : Int32) : ∃ r sd' tr', f_X6_drawn sd (nI (P 10)) (nI (P 11)) (nI (P 12)) ac bL (nI hu) (nI de) (nI st) p1 = some (r, sd') ∧ f_X7_drawn th sd plan pg tr p1 = some (r, 0, sd', tr') := by
  unfold f_X6_drawn f_X7_drawn
  rw [m_in32 p1 1 20 (a' := 1) (b' := 20) rfl rfl, Option.bind_some]
  simp only [kz_b01i]
  rcases pk_ix p1 (n := 21) (by omega) with q | q | ⟨n, hn, rfl⟩
  · have c1 : p1 < 1 := by rw [fa_lt] at *; have : (0 : Int32).toInt = 0 := rfl; have : (1 : Int32).toInt = 1 := rfl; omega
    rw [if_pos c1, if_pos (fun z => by have := (fa_le _ _).mp z.1; rw [fa_lt] at c1; omega)]
    exact ⟨_, _, _, rfl, rfl⟩
  · have c2 : ¬ p1 ≤ 20 := by rw [fa_le] at *; rw [nI_toInt (by omega)] at q; have : (20 : Int32).toInt = 20 := rfl; omega
    have c1 : ¬ p1 < 1 := by rw [fa_le] at *; rw [fa_lt]; rw [nI_toInt (by omega)] at q; have : (1 : Int32).toInt = 1 := rfl; omega
    rw [if_neg c1, if_neg c2, if_pos (fun z => c2 z.2)]
    exact ⟨_, _, _, rfl, rfl⟩
  · have e1 : (nI n < (1 : Int32)) = (n < 1) := kz_lt (b := 1) (by omega) (by omega)
    have e3 : ((1 : Int32) ≤ nI n) = (1 ≤ n) := kz_le (a := 1) (by omega) (by omega)
    have e4 : (nI n ≤ (20 : Int32)) = (n ≤ 20) := kz_le (b := 20) (by omega) (by omega)
    simp only [e1, e3, e4]
    by_cases c1 : n < 1
    · rw [if_pos c1, if_pos (by omega)]
      exact ⟨_, _, _, rfl, rfl⟩
    · rw [if_neg c1, if_pos (show n ≤ 20 by omega), if_neg (show ¬ ¬ (1 ≤ n ∧ n ≤ 20) by omega)]
      exact run_drawn h hr hv hg (by omega) 1000 0 0 sd tr (by omega) (by omega)
end DR
