/-! ONE DOING, TRIED BY BOTH -/
def agr (P : Nat → Nat) (X : Option (Int32 × Int32 × Int32 × Int32 × (Nat → Int32))) (Y : Option (Int32 × (Nat → Int32))) : Prop := ∃ (r : Int32) (hu de st : Nat) (wt : Nat → Nat) (W pg : Nat → Int32), X = some (r, nI hu, nI de, nI st, W) ∧ Y = some (r, pg) ∧ vaI P hu de st wt ∧ wtI wt W ∧ pgI hu de st wt pg
section DO
variable {P wt : Nat → Nat} {plan tb sp po wa ac bL W pg : Nat → Int32} {hu de st : Nat}
theorem agr_r (hv : vaI P hu de st wt) (hW : wtI wt W) (hg : pgI hu de st wt pg) {X : Option (Int32 × Int32 × Int32 × Int32 × (Nat → Int32))} {Y : Option (Int32 × (Nat → Int32))} (r : Int32) (hX : X = some (r, nI hu, nI de, nI st, W)) (hY : Y = some (r, pg)) : agr P X Y := ⟨r, hu, de, st, wt, W, pg, hX, hY, hv, hW, hg⟩
theorem do_1 (h : plI P plan) (hv : vaI P hu de st wt) (hW : wtI wt W) (hg : pgI hu de st wt pg) {b c e : Nat} (hb : b ≤ 9) (hc : c ≤ 9) (he : e ≤ 9) : agr P (if nI c = 0 then (if nI e = 0 then ((f_X2_triesLamp (nI hu) (nI de) (nI (P 11)) (nI b)).bind (fun z => un3 z (fun r8 u9 u10 => if r8 = 0 then (some (0, u9, u10, nI st, W)) else (some (1, u9, u10, nI st, W))))) else (some (0, nI hu, nI de, nI st, W))) else (some (0, nI hu, nI de, nI st, W))) ((f_X7_noSpot plan (nI b)).bind (fun r4 => if r4 = 0 then (if nI (10 * c + e) = 0 then ((f_X7_hangOn pg (nI b)).bind (fun u8 => some (1, u8))) else (some (0, pg))) else (some (0, pg)))) := by
  have h8 := h.2.1
  have hp2 := pw_le h8
  obtain ⟨v1, v2, v3, v4, v5⟩ := id hv
  have e0 : (nI c = (0 : Int32)) = (c = 0) := kz_eq (a := c) (b := 0) (by omega) (by omega)
  have e1 : (nI e = (0 : Int32)) = (e = 0) := kz_eq (a := e) (b := 0) (by omega) (by omega)
  have e2 : (nI (10 * c + e) = (0 : Int32)) = (10 * c + e = 0) := kz_eq (a := 10 * c + e) (b := 0) (by omega) (by omega)
  simp only [e0, e1, e2]
  unfold f_X2_triesLamp
  rw [m_noSpotN h (by omega), x_hasSpot (by omega) (by omega)]
  simp only [Option.bind_some]
  by_cases cs : b < P 11
  · by_cases cz : 10 * c + e = 0
    · obtain ⟨pg', hY, hg'⟩ := m_hangOn hg (by omega) v3 (s := b) (by omega)
      refine ⟨1, _, _, st, wt, W, pg', ?_, ?_, va_lamp h8 hv cs, hW, hg'⟩
      · rw [if_pos (show c = 0 by omega), if_pos (show e = 0 by omega), if_pos cs, if_neg (by decide), x_turnLamp (by omega) v3 (by omega)]
        rfl
      · rw [if_pos cs, if_pos rfl, if_pos cz, hY]
        rfl
    · refine agr_r hv hW hg 0 ?_ ?_
      · by_cases c1 : c = 0
        · rw [if_pos c1, if_neg (show ¬ e = 0 by omega)]
        · rw [if_neg c1]
      · rw [if_pos cs, if_pos rfl, if_neg cz]
  · refine agr_r hv hW hg 0 ?_ ?_
    · rw [if_neg cs, if_pos rfl]
      simp only [Option.bind_some, un3, if_true, ite_self]
    · rw [if_neg cs, if_neg (by decide)]
theorem do_2 (h : plI P plan) (hv : vaI P hu de st wt) (hW : wtI wt W) (hg : pgI hu de st wt pg) {b c e : Nat} (hb : b ≤ 9) (hc : c ≤ 9) (he : e ≤ 9) : agr P (if nI c = 0 then (if nI e = 0 then ((f_X2_triesDead (nI hu) (nI de) (nI (P 11)) (nI b)).bind (fun z => un3 z (fun r16 u17 u18 => if r16 = 0 then (some (0, u17, u18, nI st, W)) else (some (1, u17, u18, nI st, W))))) else (some (0, nI hu, nI de, nI st, W))) else (some (0, nI hu, nI de, nI st, W))) ((f_X7_noSpot plan (nI b)).bind (fun r11 => if r11 = 0 then (if nI (10 * c + e) = 0 then ((f_X7_has (pg (Int32.toNatClampNeg 0)) (nI b)).bind (fun r15 => if r15 = 0 then (some (0, pg)) else (some (1, (upd pg (Int32.toNatClampNeg 1) ((pg (Int32.toNatClampNeg 1)) ^^^ (1 <<< (nI b &&& 31)))))))) else (some (0, pg))) else (some (0, pg)))) := by
  have h8 := h.2.1
  have hp2 := pw_le h8
  obtain ⟨v1, v2, v3, v4, v5⟩ := id hv
  obtain ⟨g0, g1, g2, g3⟩ := id hg
  have e0 : (nI c = (0 : Int32)) = (c = 0) := kz_eq (a := c) (b := 0) (by omega) (by omega)
  have e1 : (nI e = (0 : Int32)) = (e = 0) := kz_eq (a := e) (b := 0) (by omega) (by omega)
  have e2 : (nI (10 * c + e) = (0 : Int32)) = (10 * c + e = 0) := kz_eq (a := 10 * c + e) (b := 0) (by omega) (by omega)
  simp only [e0, e1, e2]
  unfold f_X2_triesDead
  rw [m_noSpotN h (by omega), x_hasSpot (by omega) (by omega), x_lampAt (by omega) (by omega) (by omega), show Int32.toNatClampNeg 0 = 0 from rfl, show Int32.toNatClampNeg 1 = 1 from rfl, g0, g1, m_has (by omega) (by omega)]
  simp only [Option.bind_some, lm_0, kz_b01]
  by_cases cs : b < P 11
  · by_cases cz : 10 * c + e = 0
    · rw [if_pos (show c = 0 by omega), if_pos (show e = 0 by omega), if_pos cs, if_neg (by decide), if_pos cs, if_pos rfl, if_pos cz]
      cases hb2 : hu.testBit b with
      | false => exact agr_r hv hW hg 0 rfl rfl
      | true =>
        rw [if_neg (by decide), if_neg (by decide), x_turnDead (by omega) v3 (by omega) hb2, kb_bit b (by omega), fa_xor]
        exact ⟨1, _, _, st, wt, W, _, rfl, rfl, va_dead h8 hv cs hb2, hW, pg_1 hg _⟩
    · refine agr_r hv hW hg 0 ?_ ?_
      · by_cases c1 : c = 0
        · rw [if_pos c1, if_neg (show ¬ e = 0 by omega)]
        · rw [if_neg c1]
      · rw [if_pos cs, if_pos rfl, if_neg cz]
  · refine agr_r hv hW hg 0 ?_ ?_
    · rw [if_neg cs, if_pos rfl]
      simp only [Option.bind_some, un3, if_true, ite_self]
    · rw [if_neg cs, if_neg (by decide)]
theorem do_3 (h : plI P plan) (hv : vaI P hu de st wt) (hW : wtI wt W) (hg : pgI hu de st wt pg) {b c e : Nat} (hb : b ≤ 9) (hc : c ≤ 9) (he : e ≤ 9) : agr P (if nI c = 0 then (if nI e = 0 then ((f_X2_triesWall (nI st) (nI (P 13)) (nI b)).bind (fun z => un2 z (fun r24 u25 => if r24 = 0 then (some (0, nI hu, nI de, u25, W)) else (some (1, nI hu, nI de, u25, W))))) else (some (0, nI hu, nI de, nI st, W))) else (some (0, nI hu, nI de, nI st, W))) ((f_X7_walls plan).bind (fun r19 => if r19 ≤ nI b then (some (0, pg)) else (if nI (10 * c + e) = 0 then (some (1, (upd pg (Int32.toNatClampNeg 2) ((pg (Int32.toNatClampNeg 2)) ^^^ (1 <<< (nI b &&& 31)))))) else (some (0, pg))))) := by
  have h5 := h.2.2.2
  have hp2 := pw_le (n := P 13) (by omega)
  obtain ⟨v1, v2, v3, v4, v5⟩ := id hv
  obtain ⟨g0, g1, g2, g3⟩ := id hg
  have e0 : (nI c = (0 : Int32)) = (c = 0) := kz_eq (a := c) (b := 0) (by omega) (by omega)
  have e1 : (nI e = (0 : Int32)) = (e = 0) := kz_eq (a := e) (b := 0) (by omega) (by omega)
  have e2 : (nI (10 * c + e) = (0 : Int32)) = (10 * c + e = 0) := kz_eq (a := 10 * c + e) (b := 0) (by omega) (by omega)
  simp only [e0, e1, e2]
  unfold f_X2_triesWall f_X2_turnWall f_X7_walls
  rw [show Int32.toNatClampNeg 13 = 13 from rfl, (h.1 13 (by omega)).1, x_hasWall (by omega) (by omega), show Int32.toNatClampNeg 2 = 2 from rfl, g2]
  simp only [Option.bind_some, nm_]
  by_cases cs : b < P 13
  · rw [if_pos cs, if_neg (show ¬ (1 : Int32) = 0 by decide), if_neg (nI_ge cs (by omega)), kb_bit b (by omega), fa_xor]
    by_cases cz : 10 * c + e = 0
    · rw [if_pos (show c = 0 by omega), if_pos (show e = 0 by omega), if_pos cz]
      exact ⟨1, hu, de, _, wt, W, _, rfl, rfl, va_wall hv cs, hW, pg_2 hg _⟩
    · refine agr_r hv hW hg 0 ?_ ?_
      · by_cases c1 : c = 0
        · rw [if_pos c1, if_neg (show ¬ e = 0 by omega)]
        · rw [if_neg c1]
      · rw [if_neg cz]
  · refine agr_r hv hW hg 0 ?_ ?_
    · rw [if_neg cs, if_pos rfl]
      simp only [Option.bind_some, un2, if_true, ite_self]
    · rw [if_pos (nI_le (by omega) (by omega))]
theorem do_4 (h : plI P plan) (hr : raI P ac bL) (hv : vaI P hu de st wt) (hW : wtI wt W) (hg : pgI hu de st wt pg) {b c e : Nat} (hb : b ≤ 9) (hc : c ≤ 9) (he : e ≤ 9) : agr P ((f_X1_hasPoint (nI (P 12)) (nI b)).bind (fun r29 => if r29 = 0 then (some (0, nI hu, nI de, nI st, W)) else ((f_X2_sumOf (nI hu) (nI de) (nI st) (nI (P 10)) (nI (P 11)) (nI (P 12)) ac bL (nI b)).bind (fun r32 => if r32 < nI (10 * c + e) then (some (0, nI hu, nI de, nI st, W)) else (some (1, nI hu, nI de, nI st, W)))))) ((f_X7_noPoint plan (nI b)).bind (fun r24 => if r24 = 0 then ((f_X7_live pg).bind (fun r27 => (f_X7_sumBy plan (nI b) r27 (pg (Int32.toNatClampNeg 2))).bind (fun r29 => if r29 < nI (10 * c + e) then (some (0, pg)) else (some (1, pg))))) else (some (0, pg)))) := by
  have h8 := h.2.1
  have h6 := h.2.2.1
  have h5 := h.2.2.2
  have hp2 := pw_le h8
  have hp3 := pw_le (n := P 13) (by omega)
  obtain ⟨v1, v2, v3, v4, v5⟩ := id hv
  obtain ⟨g0, g1, g2, g3⟩ := id hg
  have hl := lvN_le hu de
  unfold f_X2_sumOf
  rw [m_noPointN h (by omega), x_hasPoint (by omega) (by omega), x_live (by omega), m_live (by omega) g0 g1, show Int32.toNatClampNeg 2 = 2 from rfl, g2]
  simp only [Option.bind_some]
  by_cases cs : b < P 12
  · rw [if_pos cs, if_neg (show ¬ (1 : Int32) = 0 by decide), if_pos cs, if_pos rfl, x_sumAt h hr (by omega) (by omega) cs, m_sumBy h (by omega) (by omega) cs]
    simp only [Option.bind_some]
    by_cases cc : nI (smS P (lvN hu de) st b) < nI (10 * c + e)
    · exact agr_r hv hW hg 0 (by rw [if_pos cc]) (by rw [if_pos cc])
    · exact agr_r hv hW hg 1 (by rw [if_neg cc]) (by rw [if_neg cc])
  · exact agr_r hv hW hg 0 (by rw [if_neg cs, if_pos rfl]) (by rw [if_neg cs, if_neg (by decide)])
theorem do_5 (h : plI P plan) (hr : raI P ac bL) (hv : vaI P hu de st wt) (hW : wtI wt W) (hg : pgI hu de st wt pg) {b c e : Nat} (hb : b ≤ 9) (hc : c ≤ 9) (he : e ≤ 9) : agr P ((f_X1_hasPoint (nI (P 12)) (nI b)).bind (fun r36 => if r36 = 0 then (some (0, nI hu, nI de, nI st, W)) else (if 1 < nI c then (some (0, nI hu, nI de, nI st, W)) else (if nI e = 0 then ((f_X2_isServed (nI hu) (nI de) (nI st) W (nI (P 10)) (nI (P 11)) (nI (P 12)) ac bL (nI b)).bind (fun r41 => if nI c = 1 then (bk_X2_goesWell_205 (nI hu) (nI de) (nI st) W 1 r41) else (bk_X2_goesWell_205 (nI hu) (nI de) (nI st) W 0 r41))) else (some (0, nI hu, nI de, nI st, W)))))) ((f_X7_noPoint plan (nI b)).bind (fun r33 => if r33 = 0 then (if 2 ≤ nI c then (some (0, pg)) else (if nI e = 0 then ((f_X7_live pg).bind (fun r38 => (f_X7_servedBy_trial plan pg r38 (pg (Int32.toNatClampNeg 2))).bind (fun r40 => (f_X7_has r40 (nI b)).bind (fun r42 => if nI c = 1 then (bk_X7_does_238 pg 1 r42) else (bk_X7_does_238 pg 0 r42))))) else (some (0, pg)))) else (some (0, pg)))) := by
  have h8 := h.2.1
  have h6 := h.2.2.1
  have h5 := h.2.2.2
  have hp2 := pw_le h8
  have hp3 := pw_le (n := P 13) (by omega)
  obtain ⟨v1, v2, v3, v4, v5⟩ := id hv
  obtain ⟨g0, g1, g2, g3⟩ := id hg
  have hl := lvN_le hu de
  have hs := svS_lt (wt := wt) h (lvN hu de) st
  have e1 : (nI e = (0 : Int32)) = (e = 0) := kz_eq (a := e) (b := 0) (by omega) (by omega)
  have e2 : (nI c = (1 : Int32)) = (c = 1) := kz_eq (a := c) (b := 1) (by omega) (by omega)
  have e3 : ((1 : Int32) < nI c) = (1 < c) := kz_lt (a := 1) (b := c) (by omega) (by omega)
  have e4 : ((2 : Int32) ≤ nI c) = (2 ≤ c) := kz_le (a := 2) (b := c) (by omega) (by omega)
  simp only [e1, e2, e3, e4]
  unfold f_X2_isServed f_X2_sumOf
  rw [m_noPointN h (by omega), x_hasPoint (by omega) (by omega), x_live (by omega), m_live (by omega) g0 g1, show Int32.toNatClampNeg 2 = 2 from rfl, g2]
  simp only [Option.bind_some]
  rw [served_same, m_served_page h g3 v5 (by omega) (by omega)]
  simp only [Option.bind_some]
  rw [m_has (by omega) (by omega)]
  simp only [Option.bind_some]
  by_cases cs : b < P 12
  · rw [if_pos cs, if_neg (show ¬ (1 : Int32) = 0 by decide), if_pos cs, if_pos rfl, x_sumAt h hr (by omega) (by omega) cs, x_wantOf hW (by omega)]
    simp only [Option.bind_some]
    have b1 := smS_le h (lvN hu de) st b
    have b2 := v5 b (by omega)
    have et : (svS P wt (lvN hu de) st).testBit b = decide (wt b ≤ smS P (lvN hu de) st b) := by
      unfold svS
      rw [mkb_bit]
      simp [cs]
    have e5 : (nI (smS P (lvN hu de) st b) < nI (wt b)) = (smS P (lvN hu de) st b < wt b) := kz_lt (by omega) (by omega)
    rw [et]
    simp only [e5]
    unfold bk_X2_goesWell_205 bk_X7_does_238
    by_cases c1 : 1 < c
    · exact agr_r hv hW hg 0 (by rw [if_pos c1]) (by rw [if_pos (by omega)])
    · rw [if_neg c1, if_neg (show ¬ 2 ≤ c by omega)]
      by_cases c2 : e = 0
      · rw [if_pos c2, if_pos c2]
        by_cases c3 : smS P (lvN hu de) st b < wt b
        · rw [if_pos c3, decide_eq_false (show ¬ wt b ≤ smS P (lvN hu de) st b by omega)]
          by_cases c4 : c = 1
          · exact agr_r hv hW hg 0 (by simp [c4]) (by simp [c4])
          · exact agr_r hv hW hg 1 (by simp [c4]) (by simp [c4])
        · rw [if_neg c3, decide_eq_true (show wt b ≤ smS P (lvN hu de) st b by omega)]
          by_cases c4 : c = 1
          · exact agr_r hv hW hg 1 (by simp [c4]) (by simp [c4])
          · exact agr_r hv hW hg 0 (by simp [c4]) (by simp [c4])
      · exact agr_r hv hW hg 0 (by rw [if_neg c2]) (by rw [if_neg c2])
  · exact agr_r hv hW hg 0 (by rw [if_neg cs, if_pos rfl]) (by rw [if_neg cs, if_neg (by decide)])
theorem do_6 (h : plI P plan) (hv : vaI P hu de st wt) (hW : wtI wt W) (hg : pgI hu de st wt pg) {b c e : Nat} (hb : b ≤ 9) (hc : c ≤ 9) (he : e ≤ 9) : agr P ((f_X2_triesWant W (nI (P 12)) (nI b) (nI (10 * c + e))).bind (fun z => un2 z (fun r45 u46 => if r45 &&& 1 = r45 then (some (r45, nI hu, nI de, nI st, u46)) else none))) ((f_X7_noPoint plan (nI b)).bind (fun r46 => if r46 = 0 then (if ((3 + nI b) < 0 ∨ 9 ≤ Int32.toNatClampNeg (3 + nI b)) then none else (some (1, (upd pg (Int32.toNatClampNeg (3 + nI b)) (nI (10 * c + e)))))) else (some (0, pg)))) := by
  have h6 := h.2.2.1
  obtain ⟨v1, v2, v3, v4, v5⟩ := id hv
  unfold f_X2_triesWant
  rw [m_noPointN h (by omega), x_hasPoint (by omega) (by omega), show (3 : Int32) = nI 3 from rfl, nI_add]
  simp only [Option.bind_some]
  by_cases cs : b < P 12
  · rw [if_pos cs, if_neg (show ¬ (1 : Int32) = 0 by decide), if_pos cs, if_pos rfl, x_tellWant (by omega), kz_ix (by omega) (by omega), kz_cl (by omega)]
    exact ⟨1, hu, de, st, _, _, _, by simp only [Option.bind_some, un2]; rw [if_pos (by decide)], rfl, va_want hv (by omega), wt_upd hW b (10 * c + e), pg_upd hg b (10 * c + e) (by omega)⟩
  · exact agr_r hv hW hg 0 (by rw [if_neg cs, if_pos rfl]; simp only [Option.bind_some, un2]; rw [if_pos (by decide)]) (by rw [if_neg cs, if_neg (by decide)])
theorem do_7 (h : plI P plan) (hr : raI P ac bL) (hv : vaI P hu de st wt) (hW : wtI wt W) (hg : pgI hu de st wt pg) {b c e : Nat} (hb : b ≤ 9) (hc : c ≤ 9) (he : e ≤ 9) : agr P ((f_X1_hasSpot (nI (P 11)) (nI b)).bind (fun r50 => if r50 = 0 then (some (0, nI hu, nI de, nI st, W)) else ((f_X1_hasPoint (nI (P 12)) (nI c)).bind (fun r53 => if r53 = 0 then (some (0, nI hu, nI de, nI st, W)) else (if 1 < nI e then (some (0, nI hu, nI de, nI st, W)) else ((f_X2_isShaded (nI st) (nI (P 11)) (nI (P 12)) ac (nI b) (nI c)).bind (fun r57 => if nI e = 1 then (bk_X2_goesWell_272 (nI hu) (nI de) (nI st) W 1 r57) else (bk_X2_goesWell_272 (nI hu) (nI de) (nI st) W 0 r57)))))))) ((f_X7_noSpot plan (nI b)).bind (fun r51 => if r51 = 0 then ((f_X7_noPoint plan (nI c)).bind (fun r54 => if r54 = 0 then (if 2 ≤ nI e then (some (0, pg)) else ((f_X7_shadeBy plan (nI b) (nI c) (pg (Int32.toNatClampNeg 2))).bind (fun r58 => if r58 = -9 then (bk_X7_does_313 pg (nI e) 0) else (bk_X7_does_313 pg (nI e) 1)))) else (some (0, pg)))) else (some (0, pg)))) := by
  have h8 := h.2.1
  have h6 := h.2.2.1
  have h5 := h.2.2.2
  have hp3 := pw_le (n := P 13) (by omega)
  obtain ⟨v1, v2, v3, v4, v5⟩ := id hv
  obtain ⟨g0, g1, g2, g3⟩ := id hg
  have e2 : (nI e = (1 : Int32)) = (e = 1) := kz_eq (a := e) (b := 1) (by omega) (by omega)
  have e3 : ((1 : Int32) < nI e) = (1 < e) := kz_lt (a := 1) (b := e) (by omega) (by omega)
  have e4 : ((2 : Int32) ≤ nI e) = (2 ≤ e) := kz_le (a := 2) (b := e) (by omega) (by omega)
  unfold bk_X7_does_313
  simp only [e2, e3, e4]
  rw [m_noSpotN h (by omega), m_noPointN h (by omega), x_hasSpot (by omega) (by omega), x_hasPoint (by omega) (by omega), show Int32.toNatClampNeg 2 = 2 from rfl, g2]
  simp only [Option.bind_some]
  by_cases cs : b < P 11
  · rw [if_pos cs, if_neg (show ¬ (1 : Int32) = 0 by decide), if_pos cs, if_pos rfl]
    by_cases cp : c < P 12
    · rw [if_pos cp, if_neg (show ¬ (1 : Int32) = 0 by decide), if_pos cp, if_pos rfl]
      by_cases c1 : 1 < e
      · exact agr_r hv hW hg 0 (by rw [if_pos c1]) (by rw [if_pos (by omega)])
      · rw [if_neg c1, if_neg (show ¬ 2 ≤ e by omega), m_shadeBy h (by omega) cs cp]
        unfold f_X2_isShaded f_X1_wallsAcross bk_X2_goesWell_272 bk_X7_does_324
        have r1 := (hr b cs c cp).1
        have hm := msk_lt h b c
        have hle : shF P st b c ≤ P 13 := fa_first_le (fun w => st.testBit w && mtB P b c w) (P 13)
        have hb2 : msk P b c &&& st < 2 ^ 31 := Nat.lt_of_le_of_lt Nat.and_le_left (by omega)
        rw [x_hasSpot (by omega) (by omega), x_hasPoint (by omega) (by omega), if_pos cs, if_pos cp, show (6 : Int32) = nI 6 from rfl, pk_mul, nI_add]
        simp only [Option.bind_some, if_neg (show ¬ (1 : Int32) = 0 by decide)]
        rw [kz_ix (by omega) (by omega), kz_cl (by omega), r1]
        simp only [Option.bind_some]
        rw [fa_and]
        by_cases c5 : msk P b c &&& st = 0
        · rw [c5, if_pos (show nI 0 = (0 : Int32) from rfl), if_neg (show ¬ shF P st b c < P 13 by have := shF_none.mp c5; omega), if_pos rfl]
          by_cases c4 : e = 1
          · exact agr_r hv hW hg 0 (by simp [c4]) (by simp [c4])
          · exact agr_r hv hW hg 1 (by simp [c4]) (by simp [c4])
        · have c6 : shF P st b c < P 13 := by
            rcases Nat.lt_or_ge (shF P st b c) (P 13) with q | q
            · exact q
            · exact absurd (shF_none.mpr (by omega)) c5
          rw [if_neg (nI_ne0 (by omega) hb2), if_pos c6, if_neg (by rw [kz_m9 (by omega)]; exact id)]
          by_cases c4 : e = 1
          · exact agr_r hv hW hg 1 (by simp [c4]) (by simp [c4])
          · exact agr_r hv hW hg 0 (by simp [c4]) (by simp [c4])
    · exact agr_r hv hW hg 0 (by rw [if_neg cp, if_pos rfl]) (by rw [if_neg cp, if_neg (by decide)])
  · exact agr_r hv hW hg 0 (by rw [if_neg cs, if_pos rfl]) (by rw [if_neg cs, if_neg (by decide)])
theorem step_does (h : plI P plan) (hr : raI P ac bL) (hv : vaI P hu de st wt) (hW : wtI wt W) (hg : pgI hu de st wt pg) {d : Nat} (hd : d < 10000) : agr P (f_X2_goesWell (nI hu) (nI de) (nI st) W (nI (P 10)) (nI (P 11)) (nI (P 12)) (nI (P 13)) ac bL (nI d)) (f_X7_does plan pg (nI (d / 1000)) (nI (d / 100 % 10)) (nI (d / 10 % 10)) (nI (d % 10))) := by
  unfold f_X2_goesWell f_X7_does
  simp only [nm_]
  rw [show (1000 : Int32) = nI 1000 from rfl, show (100 : Int32) = nI 100 from rfl, show (10 : Int32) = nI 10 from rfl, pk_div (a := d) (d := 1000) (by omega) (by omega) (by omega), pk_div (a := d) (d := 100) (by omega) (by omega) (by omega), pk_rem (a := d / 100) (d := 10) (by omega) (by omega) (by omega), pk_rem (a := d) (d := 10) (by omega) (by omega) (by omega), pk_div (a := d) (d := 10) (by omega) (by omega) (by omega), pk_rem (a := d / 10) (d := 10) (by omega) (by omega) (by omega), pk_mul, nI_add]
  have hb : d / 100 % 10 ≤ 9 := by omega
  have hc : d / 10 % 10 ≤ 9 := by omega
  have he : d % 10 ≤ 9 := by omega
  have ha : d / 1000 ≤ 9 := by omega
  have ek : ∀ k, k < 100 → (nI (d / 1000) = nI k) = (d / 1000 = k) := fun k hk => kz_eq (by omega) (by omega)
  have k1 : (nI (d / 1000) = (1 : Int32)) = (d / 1000 = 1) := ek 1 (by omega)
  have k2 : (nI (d / 1000) = (2 : Int32)) = (d / 1000 = 2) := ek 2 (by omega)
  have k3 : (nI (d / 1000) = (3 : Int32)) = (d / 1000 = 3) := ek 3 (by omega)
  have k4 : (nI (d / 1000) = (4 : Int32)) = (d / 1000 = 4) := ek 4 (by omega)
  have k5 : (nI (d / 1000) = (5 : Int32)) = (d / 1000 = 5) := ek 5 (by omega)
  have k6 : (nI (d / 1000) = (6 : Int32)) = (d / 1000 = 6) := ek 6 (by omega)
  have k7 : (nI (d / 1000) = (7 : Int32)) = (d / 1000 = 7) := ek 7 (by omega)
  simp only [k1, k2, k3, k4, k5, k6, k7]
  by_cases c1 : d / 1000 = 1
  · rw [if_pos c1, if_pos c1]; exact do_1 h hv hW hg hb hc he
  rw [if_neg c1, if_neg c1]
  by_cases c2 : d / 1000 = 2
  · rw [if_pos c2, if_pos c2]; exact do_2 h hv hW hg hb hc he
  rw [if_neg c2, if_neg c2]
  by_cases c3 : d / 1000 = 3
  · rw [if_pos c3, if_pos c3]; exact do_3 h hv hW hg hb hc he
  rw [if_neg c3, if_neg c3]
  by_cases c4 : d / 1000 = 4
  · rw [if_pos c4, if_pos c4]; exact do_4 h hr hv hW hg hb hc he
  rw [if_neg c4, if_neg c4]
  by_cases c5 : d / 1000 = 5
  · rw [if_pos c5, if_pos c5]; exact do_5 h hr hv hW hg hb hc he
  rw [if_neg c5, if_neg c5]
  by_cases c6 : d / 1000 = 6
  · rw [if_pos c6, if_pos c6]; exact do_6 h hv hW hg hb hc he
  rw [if_neg c6, if_neg c6]
  by_cases c7 : d / 1000 = 7
  · rw [if_pos c7, if_pos c7]; exact do_7 h hr hv hW hg hb hc he
  rw [if_neg c7, if_neg c7]
  exact agr_r hv hW hg 0 rfl rfl
end DO
