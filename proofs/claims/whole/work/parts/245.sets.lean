/-! ALL SETS OF SPOTS AT ONCE -/
theorem x_setCount : ∀ n, n < 9 → f_X4_setCount (nI n) = some (nI (2 ^ n)) := by decide +kernel
theorem pw_le {n : Nat} (h : n ≤ 8) : 2 ^ n ≤ 256 := Nat.pow_le_pow_right (n := 2) (j := 8) (by decide) h
/-- the light of the spots of a set, of the first s -/
noncomputable def suS (P : Nat → Nat) (st p set s : Nat) : Nat := P 10 + fb_sm (fun s => if set.testBit s then ltS P st s p else 0) s
section ST
variable {P wt : Nat → Nat} {plan tb sp po wa ac bL W pg : Nat → Int32}
theorem x_sumUp_in (h : plI P plan) {p s m : Nat} (st : Int32) (hs : s < P 11) (k15 : (Nat → Int32) → Int32 → Option (Nat → Int32)) (S : Nat → Int32) : lp_X4_sumUp_52 k15 (nI (P 11)) (nI (P 12)) ac bL (nI p) st (nI s) (nI (2 ^ s)) (nI m) 1000 S 0 = k15 (fb_put S (fun k => S k + nI m) (2 ^ s) (2 ^ s)) (nI (s + 1)) := by
  obtain ⟨h0, h8, h6, h5⟩ := id h
  have hp2 : 2 ^ (s + 1) ≤ 256 := pw_le (by omega)
  rw [Nat.pow_succ] at hp2
  have key := lp_up1 (fun n2 y i => lp_X4_sumUp_52 k15 (nI (P 11)) (nI (P 12)) ac bL (nI p) st (nI s) (nI (2 ^ s)) (nI m) n2 y i) (fun j => fb_put S (fun k => S k + nI m) (2 ^ s) j) (2 ^ s) (k15 (fb_put S (fun k => S k + nI m) (2 ^ s) (2 ^ s)) (nI (s + 1))) (fun n2 => ?_) (fun n2 j hj => ?_) 1000 0 (Nat.zero_le _) (by omega)
  · rw [fb_put_0] at key
    exact key
  · rw [le_X4_sumUp_52]
    unfold bk_X4_sumUp_52
    rw [if_pos (nI_le (Nat.le_refl _) (by omega))]
    simp only [nm_, nI_1]
  · rw [le_X4_sumUp_52]
    unfold bk_X4_sumUp_52
    rw [if_neg (nI_ge hj (by omega)), nI_add]
    simp only [nm_, nI_1]
    rw [kz_ix (by omega) (by omega), kz_ix (by omega) (by omega), kz_cl (show j < 2 ^ 31 by omega), kz_cl (by omega), fb_put_out (by omega), fb_put_succ S (fun k => S k + nI m) (2 ^ s) j]
theorem x_sumUp_go (h : plI P plan) (hr : raI P ac bL) {p st : Nat} (hst : st < 256) (hp : p < P 12) : ∀ (n2 s : Nat) (S : Nat → Int32), s ≤ P 11 → (∀ set, set < 2 ^ s → S set = nI (suS P st p set s)) → 20 - s < n2 → ∃ S', lp_X4_sumUp_15 (nI (P 11)) (nI (P 12)) ac bL (nI p) (nI st) n2 S (nI s) = some S' ∧ ∀ set, set < 2 ^ P 11 → S' set = nI (smS P set st p) := by
  obtain ⟨h0, h8, h6, h5⟩ := id h
  intro n2
  induction n2 with
  | zero => intro s S _ _ hf; omega
  | succ n2 ih =>
    intro s S hs hI hf
    rw [le_X4_sumUp_15]
    unfold bk_X4_sumUp_15
    rcases Nat.lt_or_ge s (P 11) with q | q
    · rw [if_neg (nI_ge q (by omega)), if_neg (show ¬ (8 : Int32) ≤ nI s from nI_ge (b := 8) (by omega) (by omega)), x_lightOf h hr hst q hp, kb_bit s (by omega)]
      simp only [Option.bind_some, nm_]
      rw [x_sumUp_in h (nI st) q]
      refine ih (s + 1) _ q (fun set hset => ?_) (by omega)
      rw [Nat.pow_succ] at hset
      have e : suS P st p set (s + 1) = suS P st p set s + (if set.testBit s then ltS P st s p else 0) := by unfold suS; rw [fb_sm_succ]; omega
      rw [e]
      rcases Nat.lt_or_ge set (2 ^ s) with z | z
      · rw [fb_put_out (by omega), hI set z, Nat.testBit_lt_two_pow z]
        rfl
      · rw [fb_put_in (by omega) (by omega), hI (set - 2 ^ s) (by omega), nI_add]
        have e2 : set = 2 ^ s + (set - 2 ^ s) := by omega
        have e3 : set.testBit s = true := by rw [e2, Nat.testBit_two_pow_add_eq, Nat.testBit_lt_two_pow (show set - 2 ^ s < 2 ^ s by omega)]; rfl
        have e4 : suS P st p (set - 2 ^ s) s = suS P st p set s := by
          unfold suS
          rw [fb_sm_cong (fun k hk => ?_)]
          rw [show set.testBit k = (set - 2 ^ s).testBit k by
            conv => lhs; rw [e2]
            rw [Nat.testBit_two_pow_add_gt hk]]
        rw [e3, e4]
        rfl
    · have : s = P 11 := by omega
      subst this
      rw [if_pos (nI_le (Nat.le_refl _) (by omega))]
      exact ⟨_, rfl, hI⟩
theorem x_sumUp (h : plI P plan) (hr : raI P ac bL) {p st : Nat} (hst : st < 256) (hp : p < P 12) (S : Nat → Int32) : ∃ S', f_X4_sumUp S (nI (P 10)) (nI (P 11)) (nI (P 12)) ac bL (nI p) (nI st) = some S' ∧ ∀ set, set < 2 ^ P 11 → S' set = nI (smS P set st p) := by
  unfold f_X4_sumUp
  refine x_sumUp_go h hr hst hp 1000 0 _ (Nat.zero_le _) (fun set hset => ?_) (by omega)
  have : set = 0 := by have := hset; rw [Nat.pow_zero] at this; omega
  subst this
  rw [show Int32.toNatClampNeg 0 = 0 from rfl, pk_us]
  rfl
theorem x_weigh_in (h : plI P plan) {p : Nat} (hp : p < P 12) (w8 : wt p ≤ 99) {st : Nat} (L_st : Int32) (k27 : (Nat → Int32) → (Nat → Int32) → Int32 → Option ((Nat → Int32) × (Nat → Int32))) (S V : Nat → Int32) (hS : ∀ set, set < 2 ^ P 11 → S set = nI (smS P set st p)) (hV : ∀ set, set < 2 ^ P 11 → V set = nI (mkb (fun p => decide (wt p ≤ smS P set st p)) p)) : lp_X4_weigh_57 k27 S (nI (P 10)) (nI (P 11)) (nI (P 12)) ac bL L_st W (nI (2 ^ P 11)) (nI p) (nI (wt p)) 1000 V 0 = k27 (fb_put V (fun set => nI (mkb (fun p => decide (wt p ≤ smS P set st p)) (p + 1))) 0 (2 ^ P 11)) S (nI (p + 1)) := by
  obtain ⟨h0, h8, h6, h5⟩ := id h
  have hp2 := pw_le h8
  have key := lp_up1 (fun n2 y i => lp_X4_weigh_57 k27 S (nI (P 10)) (nI (P 11)) (nI (P 12)) ac bL L_st W (nI (2 ^ P 11)) (nI p) (nI (wt p)) n2 y i) (fun j => fb_put V (fun set => nI (mkb (fun p => decide (wt p ≤ smS P set st p)) (p + 1))) 0 j) (2 ^ P 11) (k27 (fb_put V (fun set => nI (mkb (fun p => decide (wt p ≤ smS P set st p)) (p + 1))) 0 (2 ^ P 11)) S (nI (p + 1))) (fun n2 => ?_) (fun n2 j hj => ?_) 1000 0 (Nat.zero_le _) (by omega)
  · rw [fb_put_0] at key
    exact key
  · rw [le_X4_weigh_57]
    unfold bk_X4_weigh_57
    rw [if_pos (nI_le (Nat.le_refl _) (by omega))]
    simp only [nm_, nI_1]
  · rw [le_X4_weigh_57]
    unfold bk_X4_weigh_57
    have b1 := smS_le h j st p
    have fs := fb_put_succ V (fun set => nI (mkb (fun p => decide (wt p ≤ smS P set st p)) (p + 1))) 0 j
    rw [Nat.zero_add] at fs
    rw [if_neg (nI_ge hj (by omega))]
    simp only [nm_, nI_1]
    rw [kz_ix (by omega) (by omega), kz_ix (by omega) (by omega), kz_ix (by omega) (by omega), kz_cl (by omega), hS j hj, fb_put_out (by omega), hV j hj, mkb_put (by omega), ← fs]
    have e : mkb (fun p => decide (wt p ≤ smS P j st p)) (p + 1) = mkb (fun p => decide (wt p ≤ smS P j st p)) p + (if decide (wt p ≤ smS P j st p) then 2 ^ p else 0) := rfl
    by_cases c : smS P j st p < wt p
    · rw [if_pos (nI_lt c (by omega)), e, if_neg (by simp; omega), fa_upd_same (by rw [fb_put_out (by omega), hV j hj]; rfl)]
    · rw [if_neg (nI_nlt (by omega) (by omega)), e, if_pos (by simp; omega)]
theorem x_weigh_go (h : plI P plan) (hr : raI P ac bL) (hW : ∀ p, p < 6 → W p = nI (wt p)) (hw : ∀ p, p < 6 → wt p ≤ 99) {st : Nat} (hst : st < 256) : ∀ (n2 p : Nat) (V S : Nat → Int32), p ≤ P 12 → (∀ set, set < 2 ^ P 11 → V set = nI (mkb (fun p => decide (wt p ≤ smS P set st p)) p)) → 20 - p < n2 → ∃ V' S', lp_X4_weigh_27 (nI (P 10)) (nI (P 11)) (nI (P 12)) ac bL (nI st) W (nI (2 ^ P 11)) n2 V S (nI p) = some (V', S') ∧ ∀ set, set < 2 ^ P 11 → V' set = nI (svS P wt set st) := by
  obtain ⟨h0, h8, h6, h5⟩ := id h
  intro n2
  induction n2 with
  | zero => intro p V S _ _ hf; omega
  | succ n2 ih =>
    intro p V S hp hI hf
    rw [le_X4_weigh_27]
    unfold bk_X4_weigh_27
    rcases Nat.lt_or_ge p (P 12) with q | q
    · obtain ⟨S', e, hS⟩ := x_sumUp h hr hst q S
      rw [if_neg (nI_ge q (by omega)), e, x_wantOf hW (by omega)]
      simp only [Option.bind_some]
      rw [x_weigh_in h q (hw p (by omega)) (nI st) _ S' V hS hI]
      exact ih (p + 1) _ _ q (fun set hset => fb_put_in (by omega) (by omega)) (by omega)
    · have : p = P 12 := by omega
      subst this
      rw [if_pos (nI_le (Nat.le_refl _) (by omega))]
      exact ⟨_, _, rfl, hI⟩
theorem x_weigh (h : plI P plan) (hr : raI P ac bL) (hW : ∀ p, p < 6 → W p = nI (wt p)) (hw : ∀ p, p < 6 → wt p ≤ 99) {st : Nat} (hst : st < 256) (V S : Nat → Int32) : ∃ V' S', f_X4_weigh V S (nI (P 10)) (nI (P 11)) (nI (P 12)) ac bL (nI st) W = some (V', S') ∧ ∀ set, set < 2 ^ P 11 → V' set = nI (svS P wt set st) := by
  obtain ⟨h0, h8, h6, h5⟩ := id h
  have hp2 := pw_le h8
  unfold f_X4_weigh
  rw [x_setCount _ (by omega)]
  simp only [Option.bind_some]
  have key := lp_up1 (fun n2 y i => lp_X4_weigh_7 S (nI (P 10)) (nI (P 11)) (nI (P 12)) ac bL (nI st) W (nI (2 ^ P 11)) n2 y i) (fun j => fb_put V (fun _ => 0) 0 j) (2 ^ P 11) (lp_X4_weigh_27 (nI (P 10)) (nI (P 11)) (nI (P 12)) ac bL (nI st) W (nI (2 ^ P 11)) 1000 (fb_put V (fun _ => 0) 0 (2 ^ P 11)) S 0) (fun n2 => ?_) (fun n2 j hj => ?_) 1000 0 (Nat.zero_le _) (by omega)
  · rw [fb_put_0] at key
    have key : lp_X4_weigh_7 S (nI (P 10)) (nI (P 11)) (nI (P 12)) ac bL (nI st) W (nI (2 ^ P 11)) 1000 V 0 = _ := key
    rw [key]
    exact x_weigh_go h hr hW hw hst 1000 0 _ _ (Nat.zero_le _) (fun set hset => fb_put_in (by omega) (by omega)) (by omega)
  · rw [le_X4_weigh_7]
    unfold bk_X4_weigh_7
    rw [if_pos (nI_le (Nat.le_refl _) (by omega))]
  · rw [le_X4_weigh_7]
    unfold bk_X4_weigh_7
    have fs := fb_put_succ V (fun _ => 0) 0 j
    rw [Nat.zero_add] at fs
    rw [if_neg (nI_ge hj (by omega))]
    simp only [nm_, nI_1]
    rw [kz_ix (by omega) (by omega), kz_cl (by omega), fs]
/-- all points are served -/
noncomputable def alS (P wt : Nat → Nat) (st set : Nat) : Bool := decide (svS P wt set st = 2 ^ P 12 - 1)
theorem pw_m1 : ∀ n, n < 9 → ((1 : Int32) <<< (nI n &&& 31)) - 1 = nI (2 ^ n - 1) := by decide +kernel
theorem x_servedBy (h : plI P plan) {V : Nat → Int32} {st : Nat} (hV : ∀ set, set < 2 ^ P 11 → V set = nI (svS P wt set st)) {set : Nat} (hs : set < 2 ^ P 11) : f_X4_servedBy V (nI set) = some (nI (svS P wt set st)) := by
  have hp2 := pw_le h.2.1
  unfold f_X4_servedBy
  rw [if_neg (nI_pos (by omega)), if_pos (show nI set < (256 : Int32) from nI_lt (b := 256) (by omega) (by omega)), kz_ix (by omega) (by omega), kz_cl (by omega), hV set hs]
theorem x_servesAll (h : plI P plan) {V : Nat → Int32} {st : Nat} (hV : ∀ set, set < 2 ^ P 11 → V set = nI (svS P wt set st)) {set : Nat} (hs : set < 2 ^ P 11) : f_X4_servesAll V (nI (P 12)) (nI set) = some (if alS P wt st set then 1 else 0) := by
  have hv := svS_lt (wt := wt) h set st
  have h6 := h.2.2.1
  have hp2 := pw_le (n := P 12) (by omega)
  unfold f_X4_servesAll alS
  rw [x_servedBy h hV hs, pw_m1 _ (by omega)]
  simp (disch := omega) only [Option.bind_some, kz_eq]
  by_cases c : svS P wt set st = 2 ^ P 12 - 1
  · rw [if_pos c, if_pos (by simp [c])]
  · rw [if_neg c, if_neg (by simp [c])]
theorem m_serves (h : plI P plan) (hW : ∀ p, p < 6 → pg (3 + p) = nI (wt p)) (hw : ∀ p, p < 6 → wt p ≤ 99) {st set : Nat} (h2 : pg 2 = nI st) (hst : st < 2 ^ 31) (hs : set < 2 ^ 31) : f_X7_serves plan pg (nI set) = some (if alS P wt st set then 1 else 0) := by
  have hv := svS_lt (wt := wt) h set st
  have h6 := h.2.2.1
  have hp2 := pw_le (n := P 12) (by omega)
  unfold f_X7_serves alS f_X7_points
  rw [show Int32.toNatClampNeg 2 = 2 from rfl, h2, m_served_page h hW hw hs hst, show Int32.toNatClampNeg 12 = 12 from rfl, (h.1 12 (by omega)).1]
  simp only [Option.bind_some]
  rw [pw_m1 _ (by omega)]
  simp (disch := omega) only [kz_eq]
  by_cases c : svS P wt set st = 2 ^ P 12 - 1
  · rw [if_pos c, if_pos (by simp [c])]
  · rw [if_neg c, if_neg (by simp [c])]
end ST
