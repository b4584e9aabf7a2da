/-! KEPT LAYOUTS, AND WHAT IS SEEN -/
def slI (P : Nat → Nat) (on : Bool) (h d s : Int32) (w kp : Nat → Int32) : Prop := on = true → ∃ hu de st wt, h = nI hu ∧ d = nI de ∧ s = nI st ∧ wtI wt w ∧ vaI P hu de st wt ∧ pgI hu de st wt kp
def ikI (f : Nat) (ik : Nat → Int32) : Prop := f < 4 ∧ ik 0 = (if f.testBit 0 then 1 else 0) ∧ ik 1 = (if f.testBit 1 then 1 else 0)
theorem nar_1 : vp_nar .boolean 1 = 1 := rfl
theorem f_or : ∀ f, f < 4 → ∀ q, q < 2 → f ||| 2 ^ q < 4 ∧ (f ||| 2 ^ q).testBit q = true ∧ ∀ i, i < 2 → i ≠ q → (f ||| 2 ^ q).testBit i = f.testBit i := by decide +kernel
section KE
variable {P : Nat → Nat} {plan W : Nat → Int32} {k f : Nat} {ks ns bs bk pg kp ik : Nat → Int32} {hu de st : Nat} {wt : Nat → Nat} {ph pd ps qh qd qs : Int32} {pw qw : Nat → Int32}
theorem m_keep_w {q : Nat} (hq : q < 2) (th : Int32) : ∃ kp', lp_X7_keep_26 th pg ik (nI q) 1000 kp 0 = bk_X7_keep_55 th pg kp' ik ∧ (∀ j, j < 9 → kp' (9 * q + j) = pg j) ∧ (∀ j, j < 9 * q ∨ 9 * q + 9 ≤ j → kp' j = kp j) := by
  have key := lp_up1 (fun n2 y i => lp_X7_keep_26 th pg ik (nI q) n2 y i) (fun j => fb_put kp pg (9 * q) j) 9 (bk_X7_keep_55 th pg (fb_put kp pg (9 * q) 9) ik) (fun n2 => ?_) (fun n2 j hj => ?_) 1000 0 (Nat.zero_le _) (by omega)
  · rw [fb_put_0] at key
    exact ⟨_, key, fun j hj => by rw [fb_put_in (by omega) (by omega), show 9 * q + j - 9 * q = j by omega], fun j hj => fb_put_out hj⟩
  · rw [le_X7_keep_26]
    unfold bk_X7_keep_26
    rw [if_pos (show (9 : Int32) ≤ nI 9 from nI_le (a := 9) (Nat.le_refl _) (by omega))]
  · rw [le_X7_keep_26]
    unfold bk_X7_keep_26
    rw [if_neg (show ¬ (9 : Int32) ≤ nI j from nI_ge (b := 9) hj (by omega)), show (9 : Int32) * nI q = nI (9 * q) from pk_mul 9 q, nI_add, kz_ix hj (by omega), kz_ix (by omega) (by omega), kz_cl (by omega), kz_cl (by omega), nmE, nI_1, fb_put_succ kp pg (9 * q) j]
theorem m_again_w {q : Nat} (hq : q < 2) (th dg : Int32) : ∃ pg', lp_X7_again_31 th dg kp (nI q) 1000 pg 0 = bk_X7_again_60 th dg pg' ∧ ∀ j, j < 9 → pg' j = kp (9 * q + j) := by
  have key := lp_up1 (fun n2 y i => lp_X7_again_31 th dg kp (nI q) n2 y i) (fun j => fb_put pg (fun i => kp (9 * q + i)) 0 j) 9 (bk_X7_again_60 th dg (fb_put pg (fun i => kp (9 * q + i)) 0 9)) (fun n2 => ?_) (fun n2 j hj => ?_) 1000 0 (Nat.zero_le _) (by omega)
  · rw [fb_put_0] at key
    exact ⟨_, key, fun j hj => by rw [fb_put_in (by omega) (by omega), Nat.sub_zero]⟩
  · rw [le_X7_again_31]
    unfold bk_X7_again_31
    rw [if_pos (show (9 : Int32) ≤ nI 9 from nI_le (a := 9) (Nat.le_refl _) (by omega))]
  · rw [le_X7_again_31]
    unfold bk_X7_again_31
    have f1 := fb_put_succ pg (fun i => kp (9 * q + i)) 0 j
    rw [Nat.zero_add] at f1
    rw [if_neg (show ¬ (9 : Int32) ≤ nI j from nI_ge (b := 9) hj (by omega)), show (9 : Int32) * nI q = nI (9 * q) from pk_mul 9 q, nI_add, kz_ix (by omega) (by omega), kz_ix hj (by omega), kz_cl (by omega), kz_cl (by omega), nmE, nI_1, f1]
theorem c_keep (hp8 : P 11 ≤ 8) (hv : vaI P hu de st wt) (hW : wtI wt W) (hg : pgI hu de st wt pg) (hik : ikI f ik) (hP : slI P (f.testBit 0) ph pd ps pw (fun j => kp (9 * 0 + j))) (hQ : slI P (f.testBit 1) qh qd qs qw (fun j => kp (9 * 1 + j))) (th p1 : Int32) : ∃ r f' ph' pd' ps' pw' qh' qd' qs' qw' kp' ik', f_X6_keep (nI f) (nI hu) (nI de) (nI st) W ph pd ps pw qh qd qs qw p1 = some (r, nI f', ph', pd', ps', pw', qh', qd', qs', qw') ∧ f_X7_keep th pg kp ik p1 = some (r, 0, kp', ik') ∧ ikI f' ik' ∧ slI P (f'.testBit 0) ph' pd' ps' pw' (fun j => kp' (9 * 0 + j)) ∧ slI P (f'.testBit 1) qh' qd' qs' qw' (fun j => kp' (9 * 1 + j)) := by
  have hp2 := pw_le hp8
  have v1 := hv.1
  obtain ⟨i0, i1, i2⟩ := id hik
  unfold f_X6_keep f_X7_keep
  rw [m_in32 p1 0 1 (a' := 0) (b' := 1) rfl rfl, Option.bind_some]
  simp only [kz_b01i]
  rcases pk_ix p1 (n := 2) (by omega) with q | q | ⟨v, hv2, rfl⟩
  · rw [if_pos q, if_pos (fun z => by have := (fa_le _ _).mp z.1; rw [fa_lt] at q; omega)]
    exact ⟨_, f, _, _, _, _, _, _, _, _, _, _, rfl, rfl, hik, hP, hQ⟩
  · have c2 : ¬ p1 ≤ 1 := by rw [fa_le] at *; rw [nI_toInt (by omega)] at q; have : (1 : Int32).toInt = 1 := rfl; omega
    have c1 : ¬ p1 < 0 := by rw [fa_le] at *; rw [fa_lt]; rw [nI_toInt (by omega)] at q; have : (0 : Int32).toInt = 0 := rfl; omega
    rw [if_neg c1, if_neg c2, if_pos (fun z => c2 z.2)]
    exact ⟨_, f, _, _, _, _, _, _, _, _, _, _, rfl, rfl, hik, hP, hQ⟩
  · have c2 : nI v ≤ (1 : Int32) := nI_le (b := 1) (by omega) (by omega)
    have c1 : (0 : Int32) ≤ nI v := nI_le (a := 0) (by omega) (by omega)
    obtain ⟨o1, o2, o3⟩ := f_or f i0 v hv2
    obtain ⟨kp', e1, q1, q2⟩ := m_keep_w (pg := pg) (kp := kp) (ik := upd ik v 1) hv2 0
    rw [if_neg (show ¬ nI v < 0 from nI_pos (by omega)), if_pos c2, if_neg (show ¬ ¬ ((0 : Int32) ≤ nI v ∧ nI v ≤ 1) from fun z => z ⟨c1, c2⟩), kz_ix hv2 (by omega), kz_cl (by omega), nar_1, e1, kb_bit v (by omega), fa_or, x_bitCount _ (by omega)]
    unfold bk_X7_keep_55
    rw [show Int32.toNatClampNeg 0 = 0 from rfl, hg.1, m_ones _ (by omega), Option.bind_some]
    rcases (show v = 0 ∨ v = 1 by omega) with rfl | rfl
    · obtain ⟨W', ew, hw'⟩ := x_copyFrom ph pd ps pw (nI hu) (nI de) (nI st) W
      rw [if_pos (show nI 0 = (0 : Int32) from rfl), ew, Option.bind_some, un4E, nmE, Option.bind_some]
      refine ⟨_, _, _, _, _, _, _, _, _, _, _, _, rfl, rfl, ⟨o1, ?_, ?_⟩, fun _ => ⟨hu, de, st, wt, rfl, rfl, rfl, wt_same hW hw', hv, pg_same hg (fun p hp => q1 p hp)⟩, fun e => ?_⟩
      · rw [pk_us, o2]; rfl
      · rw [pk_un (by omega), o3 1 (by omega) (by omega)]; exact i2
      · rw [o3 1 (by omega) (by omega)] at e
        obtain ⟨a, b, c, d, x1, x2, x3, x4, x5, x6⟩ := hQ e
        exact ⟨a, b, c, d, x1, x2, x3, x4, x5, pg_same x6 (fun p hp => q2 _ (by omega))⟩
    · obtain ⟨W', ew, hw'⟩ := x_copyFrom qh qd qs qw (nI hu) (nI de) (nI st) W
      rw [if_neg (show ¬ nI 1 = (0 : Int32) by decide), ew, Option.bind_some, un4E, nmE, Option.bind_some]
      refine ⟨_, _, _, _, _, _, _, _, _, _, _, _, rfl, rfl, ⟨o1, ?_, ?_⟩, fun e => ?_, fun _ => ⟨hu, de, st, wt, rfl, rfl, rfl, wt_same hW hw', hv, pg_same hg (fun p hp => q1 p hp)⟩⟩
      · rw [pk_un (by omega), o3 0 (by omega) (by omega)]; exact i1
      · rw [pk_us, o2]; rfl
      · rw [o3 0 (by omega) (by omega)] at e
        obtain ⟨a, b, c, d, x1, x2, x3, x4, x5, x6⟩ := hP e
        exact ⟨a, b, c, d, x1, x2, x3, x4, x5, pg_same x6 (fun p hp => q2 _ (by omega))⟩
theorem ac_0 (P : Nat → Nat) (ks ns bs bk : Nat → Int32) (hu de st : Nat) (wt : Nat → Nat) : acI P 0 ks ns bs bk hu de st wt := ⟨by omega, fun _ => hu, fun _ => de, fun _ => st, fun _ => wt, rfl, rfl, rfl, rfl, fun i hi => by omega⟩
theorem c_again (hp8 : P 11 ≤ 8) (ha : acI P k ks ns bs bk hu de st wt) (hv : vaI P hu de st wt) (hW : wtI wt W) (hg : pgI hu de st wt pg) (hik : ikI f ik) (hP : slI P (f.testBit 0) ph pd ps pw (fun j => kp (9 * 0 + j))) (hQ : slI P (f.testBit 1) qh qd qs qw (fun j => kp (9 * 1 + j))) (th p1 : Int32) : ∃ r hu' de' st' wt' W' k' pg', f_X6_again (nI f) (nI hu) (nI de) (nI st) W ph pd ps pw qh qd qs qw (nI k) p1 = some (r, nI hu', nI de', nI st', W', nI k') ∧ f_X7_again th (nI k) pg kp ik p1 = some (r, 0, nI k', pg') ∧ acI P k' ks ns bs bk hu' de' st' wt' ∧ vaI P hu' de' st' wt' ∧ wtI wt' W' ∧ pgI hu' de' st' wt' pg' := by
  have hp2 := pw_le hp8
  obtain ⟨i0, i1, i2⟩ := id hik
  unfold f_X6_again f_X7_again
  rw [m_in32 p1 0 1 (a' := 0) (b' := 1) rfl rfl, Option.bind_some]
  simp only [kz_b01i]
  rcases pk_ix p1 (n := 2) (by omega) with q | q | ⟨v, hv2, rfl⟩
  · rw [if_pos q, if_pos (fun z => by have := (fa_le _ _).mp z.1; rw [fa_lt] at q; omega)]
    exact ⟨_, hu, de, st, wt, W, k, _, rfl, rfl, ha, hv, hW, hg⟩
  · have c2 : ¬ p1 ≤ 1 := by rw [fa_le] at *; rw [nI_toInt (by omega)] at q; have : (1 : Int32).toInt = 1 := rfl; omega
    have c1 : ¬ p1 < 0 := by rw [fa_le] at *; rw [fa_lt]; rw [nI_toInt (by omega)] at q; have : (0 : Int32).toInt = 0 := rfl; omega
    rw [if_neg c1, if_neg c2, if_pos (fun z => c2 z.2)]
    exact ⟨_, hu, de, st, wt, W, k, _, rfl, rfl, ha, hv, hW, hg⟩
  · have c2 : nI v ≤ (1 : Int32) := nI_le (b := 1) (by omega) (by omega)
    have c1 : (0 : Int32) ≤ nI v := nI_le (a := 0) (by omega) (by omega)
    obtain ⟨pg', e1, q1⟩ := m_again_w (pg := pg) (kp := kp) hv2 0 (nI k)
    have e0 : ((nI f >>> (nI v &&& 31)) &&& (1 : Int32) = 0) = (f.testBit v = false) := kb_has0 (by omega) (by omega)
    have ei : (ik v = 0) = (f.testBit v = false) := by
      rcases (show v = 0 ∨ v = 1 by omega) with rfl | rfl
      · rw [i1, kz_b01]
      · rw [i2, kz_b01]
    rw [if_neg (show ¬ nI v < 0 from nI_pos (by omega)), if_pos c2, if_neg (show ¬ ¬ ((0 : Int32) ≤ nI v ∧ nI v ≤ 1) from fun z => z ⟨c1, c2⟩), kz_ix hv2 (by omega), kz_cl (by omega), e1]
    unfold bk_X7_again_60
    simp only [e0, ei]
    cases eb : f.testBit v with
    | false =>
      rw [if_pos rfl, if_pos rfl]
      exact ⟨_, hu, de, st, wt, W, k, _, rfl, rfl, ha, hv, hW, hg⟩
    | true =>
      rw [if_neg (show ¬ (true = false) by decide), if_neg (show ¬ (true = false) by decide)]
      rcases (show v = 0 ∨ v = 1 by omega) with rfl | rfl
      · obtain ⟨a, b, c, d, x1, x2, x3, x4, x5, x6⟩ := hP eb
        have y1 := x5.1
        obtain ⟨W', ew, hw'⟩ := x_copyFrom (nI hu) (nI de) (nI st) W ph pd ps pw
        have hg' := pg_same x6 (fun p hp => q1 p hp)
        rw [if_pos (show nI 0 = (0 : Int32) from rfl), ew, Option.bind_some, un4E, x1, x2, x3, x_bitCount _ (by omega), Option.bind_some, show Int32.toNatClampNeg 0 = 0 from rfl, hg'.1, m_ones _ (by omega), Option.bind_some]
        exact ⟨_, a, b, c, d, W', 0, pg', rfl, rfl, ac_0 _ _ _ _ _ _ _ _ _, x5, wt_same x4 hw', hg'⟩
      · obtain ⟨a, b, c, d, x1, x2, x3, x4, x5, x6⟩ := hQ eb
        have y1 := x5.1
        obtain ⟨W', ew, hw'⟩ := x_copyFrom (nI hu) (nI de) (nI st) W qh qd qs qw
        have hg' := pg_same x6 (fun p hp => q1 p hp)
        rw [if_neg (show ¬ nI 1 = (0 : Int32) by decide), ew, Option.bind_some, un4E, x1, x2, x3, x_bitCount _ (by omega), Option.bind_some, show Int32.toNatClampNeg 0 = 0 from rfl, hg'.1, m_ones _ (by omega), Option.bind_some]
        exact ⟨_, a, b, c, d, W', 0, pg', rfl, rfl, ac_0 _ _ _ _ _ _ _ _ _, x5, wt_same x4 hw', hg'⟩
end KE
