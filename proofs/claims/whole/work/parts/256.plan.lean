/-! A PLAN TAKEN -/
theorem cn_ex (c : Nat → Nat) (x : Nat) : ∀ K s, s < cnP c x K → ∃ k', k' < K ∧ c (12 + 5 * k') = x ∧ cnP c x k' = s
  | 0, s, h => absurd h (by rw [show cnP c x 0 = 0 from rfl]; omega)
  | K + 1, s, h => by
    rw [cnP_s] at h
    rcases Nat.lt_or_ge s (cnP c x K) with z | z
    · obtain ⟨k', a, b, d⟩ := cn_ex c x K s z
      exact ⟨k', by omega, b, d⟩
    · by_cases q : c (12 + 5 * K) = x
      · rw [if_pos q] at h
        exact ⟨K, by omega, q, by omega⟩
      · rw [if_neg q] at h
        omega
section PL
variable {P wt : Nat → Nat} {T : Nat → Int32} {c : Nat → Nat} {n : Nat}
/-- P holds what the text tells -/
def plC (c : Nat → Nat) (K : Nat) (P wt : Nat → Nat) : Prop := (∀ i, i < 11 → P i = c (1 + i) - 48) ∧ (P 11 = cnP c 115 K ∧ P 12 = cnP c 102 K ∧ P 13 = cnP c 119 K) ∧ (∀ k', k' < K → c (12 + 5 * k') = 115 → ∀ j, j < 4 → P (14 + 4 * cnP c 115 k' + j) = c (13 + 5 * k' + j) - 48) ∧ (∀ k', k' < K → c (12 + 5 * k') = 102 → (∀ j, j < 2 → P (46 + 2 * cnP c 102 k' + j) = c (13 + 5 * k' + j) - 48) ∧ wt (cnP c 102 k') = 10 * (c (15 + 5 * k') - 48) + (c (16 + 5 * k') - 48)) ∧ (∀ k', k' < K → c (12 + 5 * k') = 119 → ∀ j, j < 4 → P (58 + 4 * cnP c 119 k' + j) = c (13 + 5 * k' + j) - 48)
theorem x_planF {plan : Nat → Int32} {K : Nat} (h : holdT T c n) (hp : plI P plan) (hn5 : n = 12 + 5 * K) (hfit : ∀ i, i < n → fitS c i = true) (hC : plC c K P wt) (a1 a2 a3 a4 : Int32) (b1 b2 b3 b4 b5 tb : Nat → Int32) : ∃ tb' sp po wa ac bL, f_X1_read a1 a2 a3 a4 tb b1 b2 b3 b4 b5 (nI n) T = some (nI (P 10), nI (P 11), nI (P 12), nI (P 13), tb', sp, po, wa, ac, bL) ∧ ptI P tb' sp po wa ∧ raI P ac bL ∧ ∀ p, p < P 12 → f_X1_firstWant po (nI p) = some (nI (wt p)) := by
  obtain ⟨h0, h8, h6, h5⟩ := id hp
  obtain ⟨c1, ⟨c2, c3, c4⟩, c5, c6, c7⟩ := hC
  have hle := h.1
  rw [x_table h (by omega) hfit]
  unfold bk_X1_read_27 f_X5_figureAt
  have f11 := hfit 11 (by omega)
  have d11 : 48 ≤ c 11 ∧ c 11 ≤ 57 := by
    unfold fitS inR at f11
    simpa using f11
  obtain ⟨sp, es, ps⟩ := x_readParts h hn5 hfit (x := 115) (nB := 32) (by omega) (by omega) (by omega) b1
  obtain ⟨po, ef, pf⟩ := x_readParts h hn5 hfit (x := 102) (nB := 24) (by omega) (by omega) (by omega) b2
  obtain ⟨wa, ew, pw⟩ := x_readParts h hn5 hfit (x := 119) (nB := 20) (by omega) (by omega) (by omega) b3
  have hpt : ptI P (fb_put tb (fun j => nI (c (1 + j) - 48)) 0 10) sp po wa := by
    refine ⟨fun i hi => ?_, fun s hs j hj => ?_, fun p hp2 j hj => ?_, fun w hw j hj => ?_⟩
    · rw [fb_put_in (by omega) (by omega), Nat.sub_zero, c1 i (by omega)]
    · obtain ⟨k', q1, q2, q3⟩ := cn_ex c 115 K s (by omega)
      have e1 := ps k' q1 q2 j hj
      have e2 := c5 k' q1 q2 j hj
      rw [q3] at e1 e2
      rw [e2, Nat.mul_comm s 4, e1]
    · obtain ⟨k', q1, q2, q3⟩ := cn_ex c 102 K p (by omega)
      have e1 := pf k' q1 q2 j (by omega)
      have e2 := (c6 k' q1 q2).1 j hj
      rw [q3] at e1 e2
      rw [e2, Nat.mul_comm p 4, e1]
    · obtain ⟨k', q1, q2, q3⟩ := cn_ex c 119 K w (by omega)
      have e1 := pw k' q1 q2 j hj
      have e2 := c7 k' q1 q2 j hj
      rw [q3] at e1 e2
      rw [e2, Nat.mul_comm w 4, e1]
  obtain ⟨ac, bL, er, hr⟩ := x_rays hp hpt b4 b5
  rw [show (11 : Int32) = nI 11 from rfl, x_letterAt h (by omega), Option.bind_some, Option.bind_some, show nI (c 11) - 48 = nI (c 11 - 48) from pk_sub (b := 48) (by omega), show (115 : Int32) = nI 115 from rfl, es, Option.bind_some, un2E, show (102 : Int32) = nI 102 from rfl, ef, Option.bind_some, un2E, show (119 : Int32) = nI 119 from rfl, ew, Option.bind_some, un2E, ← c2, ← c3, ← c4, er, Option.bind_some, un2E]
  refine ⟨_, sp, po, wa, ac, bL, ?_, hpt, hr, fun p hp2 => ?_⟩
  · rw [c1 10 (by omega)]
  · obtain ⟨k', q1, q2, q3⟩ := cn_ex c 102 K p (by omega)
    have e1 := pf k' q1 q2 2 (by omega)
    have e2 := pf k' q1 q2 3 (by omega)
    have e3 := (c6 k' q1 q2).2
    rw [q3] at e1 e2 e3
    unfold f_X1_firstWant f_X1_pointFigure
    rw [show (2 : Int32) = nI 2 from rfl, show (3 : Int32) = nI 3 from rfl, x_figureOf (by omega) (by omega) (by rw [Nat.mul_comm p 4]; exact e1), Option.bind_some, Option.bind_some, x_figureOf (by omega) (by omega) (by rw [Nat.mul_comm p 4]; exact e2), Option.bind_some, Option.bind_some, show (10 : Int32) = nI 10 from rfl, pk_mul, nI_add, e3, Nat.mul_comm, show 13 + 5 * k' + 2 = 15 + 5 * k' by omega, show 13 + 5 * k' + 3 = 16 + 5 * k' by omega]
theorem x_begin {plan : Nat → Int32} {po : Nat → Int32} (hp : plI P plan) (hf : ∀ p, p < P 12 → f_X1_firstWant po (nI p) = some (nI (wt p))) (hz : ∀ p, P 12 ≤ p → p < 6 → wt p = 0) (a b d : Int32) (W : Nat → Int32) : ∃ W', f_X2_begin a b d W (nI (P 12)) (nI (P 13)) po = some (0, 0, nI (2 ^ P 13 - 1), W') ∧ wtI wt W' := by
  obtain ⟨h0, h8, h6, h5⟩ := id hp
  unfold f_X2_begin
  have key := lp_up1 (fun n2 y i => lp_X2_begin_27 0 0 (nI (2 ^ P 13 - 1)) (nI (P 12)) po n2 y i) (fun j => fb_put W (fun p => nI (wt p)) 0 j) 6 (some (0, 0, nI (2 ^ P 13 - 1), fb_put W (fun p => nI (wt p)) 0 6)) (fun n2 => ?_) (fun n2 j hj => ?_) 1000 0 (Nat.zero_le _) (by omega)
  · rw [fb_put_0] at key
    rw [pw_m1 _ (by omega), nmE]
    exact ⟨_, key, fun p hp => by rw [fb_put_in (by omega) (by omega), Nat.sub_zero]⟩
  · rw [le_X2_begin_27]
    unfold bk_X2_begin_27
    rw [if_pos (show (6 : Int32) ≤ nI 6 from nI_le (a := 6) (Nat.le_refl _) (by omega))]
  · rw [le_X2_begin_27]
    unfold bk_X2_begin_27
    have fs := fb_put_succ W (fun p => nI (wt p)) 0 j
    rw [Nat.zero_add] at fs
    rw [if_neg (show ¬ (6 : Int32) ≤ nI j from nI_ge (b := 6) hj (by omega)), x_hasPoint (by omega) (by omega), Option.bind_some]
    by_cases cp : j < P 12
    · rw [if_pos cp, if_neg (by decide), hf j cp, Option.bind_some, kz_ix hj (by omega), kz_cl (by omega), nmE, nI_1, fs]
    · rw [if_neg cp, if_pos rfl, kz_ix hj (by omega), kz_cl (by omega), nmE, nI_1, ← fs]
      simp only [hz j (by omega) hj]
      rfl
theorem m_plan_cp (rd plan : Nat → Int32) (th pl dg : Int32) (rp pg ik : Nat → Int32) : ∃ plan', lp_X7_plan_19 th pl dg rd rp pg ik 1000 plan 0 = bk_X7_plan_43 th pl dg plan' rd rp pg ik ∧ ∀ i, i < 78 → plan' i = rd i := by
  have key := lp_up1 (fun n2 y i => lp_X7_plan_19 th pl dg rd rp pg ik n2 y i) (fun j => fb_put plan rd 0 j) 78 (bk_X7_plan_43 th pl dg (fb_put plan rd 0 78) rd rp pg ik) (fun n2 => ?_) (fun n2 j hj => ?_) 1000 0 (Nat.zero_le _) (by omega)
  · rw [fb_put_0] at key
    exact ⟨_, key, fun i hi => by rw [fb_put_in (by omega) (by omega), Nat.sub_zero]⟩
  · rw [le_X7_plan_19]
    unfold bk_X7_plan_19
    rw [if_pos (show (78 : Int32) ≤ nI 78 from nI_le (a := 78) (Nat.le_refl _) (by omega))]
  · rw [le_X7_plan_19]
    unfold bk_X7_plan_19
    have fs := fb_put_succ plan rd 0 j
    rw [Nat.zero_add] at fs
    rw [if_neg (show ¬ (78 : Int32) ≤ nI j from nI_ge (b := 78) hj (by omega)), kz_ix hj (by omega), kz_ix hj (by omega), kz_cl (by omega), fs, nmE, nI_1]
/-- both take the plan, or neither does -/
theorem c_plan {MT : Nat → Int32} (h : holdT T c n) (hm : holdT MT c n) (fs a1 a2 a3 a4 : Int32) (tb b1 b2 b3 b4 b5 : Nat → Int32) (nh nd ns : Int32) (nw : Nat → Int32) (as th pl dg : Int32) (plan rd rp pg ik : Nat → Int32) : (f_X6_plan fs (nI n) T a1 a2 a3 a4 tb b1 b2 b3 b4 b5 nh nd ns nw as = some (-3, fs, a1, a2, a3, a4, tb, b1, b2, b3, b4, b5, nh, nd, ns, nw, as) ∧ ∃ pl' rd' rp', f_X7_plan th (nI n) pl dg MT plan rd rp pg ik = some (-3, 0, pl', dg, plan, rd', rp', pg, ik)) ∨ (∃ P wt tb' sp po wa ac bL W pl' plan' rd' rp' pg' ik', f_X6_plan fs (nI n) T a1 a2 a3 a4 tb b1 b2 b3 b4 b5 nh nd ns nw as = some (nI (P 11), 0, nI (P 10), nI (P 11), nI (P 12), nI (P 13), tb', sp, po, wa, ac, bL, nI 0, nI 0, nI (2 ^ P 13 - 1), W, 0) ∧ f_X7_plan th (nI n) pl dg MT plan rd rp pg ik = some (nI (P 11), 0, pl', 0, plan', rd', rp', pg', ik') ∧ plI P plan' ∧ ptI P tb' sp po wa ∧ raI P ac bL ∧ vaI P 0 0 (2 ^ P 13 - 1) wt ∧ wtI wt W ∧ pgI 0 0 (2 ^ P 13 - 1) wt pg' ∧ ik' 0 = 0 ∧ ik' 1 = 0) := by
  obtain ⟨pl', rd', rp', em, hok⟩ := m_readPlan hm pl rd rp
  unfold f_X6_plan f_X7_plan
  rw [x_fault h, em, Option.bind_some, Option.bind_some, un4E]
  by_cases cf : fFF c n = -9
  · right
    obtain ⟨hI, h12, h5, hfit⟩ := hok cf
    obtain ⟨i1, i2, ⟨i3a, i3b, i3c⟩, i4, i5, i6, ⟨i7a, i7b, i7c, i7d⟩, ⟨i8a, i8b, i8c⟩, i9⟩ := id hI
    have hn5 : n = 12 + 5 * ((n - 12) / 5) := by omega
    obtain ⟨P, hPd⟩ : ∃ P : Nat → Nat, ∀ i, P i = Int32.toNatClampNeg (rd' i) := ⟨_, fun _ => rfl⟩
    obtain ⟨wt, hwd⟩ : ∃ wt : Nat → Nat, ∀ p, wt p = Int32.toNatClampNeg (rp' (3 + p)) := ⟨_, fun _ => rfl⟩
    have hP : ∀ i v, v < 2 ^ 31 → rd' i = nI v → P i = v := fun i v hv e => by rw [hPd, e, kz_cl hv]
    have hR : ∀ p v, v < 2 ^ 31 → rp' (3 + p) = nI v → wt p = v := fun i v hv e => by rw [hwd, e, kz_cl hv]
    have hc : ∀ i, i < n → c i < 256 := fun i hi => (h.2 i hi).2
    have hC : plC c ((n - 12) / 5) P wt := by
      refine ⟨fun i hi => ?_, ⟨?_, ?_, ?_⟩, fun k' hk e j hj => ?_, fun k' hk e => ⟨fun j hj => ?_, ?_⟩, fun k' hk e j hj => ?_⟩
      · have := hc (1 + i) (by omega)
        exact hP _ _ (by omega) (i2 i hi)
      · exact hP _ _ (by omega) i3a
      · exact hP _ _ (by omega) i3b
      · exact hP _ _ (by omega) i3c
      · have := hc (13 + 5 * k' + j) (by omega)
        exact hP _ _ (by omega) (i4 k' hk e j hj)
      · have := hc (13 + 5 * k' + j) (by omega)
        exact hP _ _ (by omega) ((i5 k' hk e).1 j hj)
      · have := hc (15 + 5 * k') (by omega)
        have := hc (16 + 5 * k') (by omega)
        exact hR _ _ (by omega) (i5 k' hk e).2
      · have := hc (13 + 5 * k' + j) (by omega)
        exact hP _ _ (by omega) (i6 k' hk e j hj)
    obtain ⟨plan', e1, q1⟩ := m_plan_cp rd' plan 0 pl' dg rp' pg ik
    have e11 : P 11 = cnP c 115 ((n - 12) / 5) := hC.2.1.1
    have e12 : P 12 = cnP c 102 ((n - 12) / 5) := hC.2.1.2.1
    have e13 : P 13 = cnP c 119 ((n - 12) / 5) := hC.2.1.2.2
    have hpl : plI P plan' := by
      refine ⟨fun i hi => ?_, by rw [e11]; exact i8a, by rw [e12]; exact i8b, by rw [e13]; exact i8c⟩
      obtain ⟨v, hv, e⟩ := i1 i hi
      rw [q1 i hi, hP i v (by omega) e]
      exact ⟨e, hv⟩
    obtain ⟨tb', sp, po, wa, ac, bL, ex, hpt, hr, hf⟩ := x_planF h hpl hn5 hfit hC a1 a2 a3 a4 b1 b2 b3 b4 b5 tb
    obtain ⟨W, eb, hW⟩ := x_begin hpl hf (fun p hp hp6 => hR p 0 (by omega) (i7d p (by omega) hp6)) nh nd ns nw
    obtain ⟨pg', ec, q2⟩ := m_copy rp' pg
    have h5' := hpl.2.2.2
    refine ⟨P, wt, tb', sp, po, wa, ac, bL, W, pl', plan', rd', rp', upd pg' 2 (nI (2 ^ P 13 - 1)), upd (upd ik 0 0) 1 0, ?_, ?_, hpl, hpt, hr, ?_, hW, ?_, rfl, rfl⟩
    · rw [if_pos cf, ex, Option.bind_some]
      unfold un10
      dsimp only
      rw [eb, Option.bind_some, un4E]
      rfl
    · rw [if_pos cf, e1]
      unfold bk_X7_plan_43 f_X7_walls f_X7_spots
      rw [ec, Option.bind_some, show Int32.toNatClampNeg 13 = 13 from rfl, show Int32.toNatClampNeg 11 = 11 from rfl, (hpl.1 13 (by omega)).1, (hpl.1 11 (by omega)).1, Option.bind_some, Option.bind_some, pw_m1 _ (by omega)]
      rfl
    · refine ⟨Nat.two_pow_pos _, fun i hi => hi, by omega, ?_, fun p hp => ?_⟩
      · have := Nat.two_pow_pos (P 13)
        omega
      · obtain ⟨v, hv, e⟩ := i9 (3 + p) (by omega)
        rw [hR _ v (by omega) e]
        exact hv
    · refine pg_2 (st := 0) ⟨by rw [q2 0 (by omega)]; exact i7a, by rw [q2 1 (by omega)]; exact i7b, by rw [q2 2 (by omega)]; exact i7c, fun p hp => ?_⟩ _
      obtain ⟨v, hv, e⟩ := i9 (3 + p) (by omega)
      rw [q2 (3 + p) (by omega), hR _ v (by omega) e]
      exact e
  · left
    rw [if_neg cf, if_neg cf]
    exact ⟨rfl, _, _, _, rfl⟩
end PL
