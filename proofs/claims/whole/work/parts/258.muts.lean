/-! DOINGS OF BOTH SIDES -/
theorem a_ix {n : Nat} (hn : n ≤ 100) (x : Int32) : (∃ j, j < n ∧ x = nI j) ∨ (f_X1_hasSpot (nI n) x = some 0 ∧ f_X1_hasPoint (nI n) x = some 0 ∧ f_X1_hasWall (nI n) x = some 0 ∧ ¬ (0 ≤ x ∧ x ≤ nI n - 1)) := by
  rcases pk_ix x (n := n) (by omega) with q | q | q
  · right
    unfold f_X1_hasSpot f_X1_hasPoint f_X1_hasWall
    rw [if_pos q]
    exact ⟨rfl, rfl, rfl, fun z => by have := (fa_le _ _).mp z.1; rw [fa_lt] at q; omega⟩
  · right
    have c2 : ¬ x < 0 := by rw [fa_le] at q; rw [fa_lt]; rw [nI_toInt (by omega)] at q; have : (0 : Int32).toInt = 0 := rfl; omega
    unfold f_X1_hasSpot f_X1_hasPoint f_X1_hasWall
    rw [if_neg c2, if_pos q]
    refine ⟨rfl, rfl, rfl, fun z => ?_⟩
    obtain ⟨j, hj, e⟩ := (kz_in1 (by omega) _).mp z
    rw [e, kz_le (by omega) (by omega)] at q
    omega
  · exact Or.inl q
section MU
variable {P : Nat → Nat} {plan ac bL W : Nat → Int32} {k : Nat} {ks ns bs bk pg : Nat → Int32} {hu de st : Nat} {wt : Nat → Nat}
theorem c_hang (h : plI P plan) (ha : acI P k ks ns bs bk hu de st wt) (hv : vaI P hu de st wt) (hg : pgI hu de st wt pg) (th p1 : Int32) : ∃ r hu' de' k' ks' ns' bs' pg' bk', f_X6_hang (nI (P 11)) (nI hu) (nI de) (nI k) ks ns bs p1 = some (r, nI hu', nI de', nI k', ks', ns', bs') ∧ f_X7_hang th (nI k) plan pg bk p1 = some (r, 0, nI k', pg', bk') ∧ acI P k' ks' ns' bs' bk' hu' de' st wt ∧ vaI P hu' de' st wt ∧ pgI hu' de' st wt pg' := by
  have h8 := h.2.1
  have hp2 := pw_le h8
  obtain ⟨v1, v2, v3, v4, v5⟩ := id hv
  unfold f_X6_hang f_X7_hang
  rw [m_noSpot h, Option.bind_some]
  rcases a_ix (n := P 11) (by omega) p1 with ⟨b, hb, rfl⟩ | ⟨q1, _, _, q4⟩
  · obtain ⟨k', ks', ns', bs', bk', e1, e2, ha'⟩ := c_note (pg := pg) ha hv hg (tb_lamp (st := st) (wt := wt) (show hu < 256 by omega) v3 (show b < 8 by omega) (v2 b))
    obtain ⟨pg', e3, hg'⟩ := m_hangOn hg (show hu < 256 by omega) v3 (show b < 8 by omega)
    have hx := xor_lt (n := 8) (show hu < 256 by omega) (show b < 8 by omega)
    rw [if_pos ((kz_in1 (by omega) _).mpr ⟨b, hb, rfl⟩), if_pos rfl, x_hasSpot (by omega) (by omega), Option.bind_some, if_pos hb, if_neg (by decide), x_lampAt (by omega) (by omega) (by omega), Option.bind_some, e1, e2, Option.bind_some, Option.bind_some, un4E, un2E, x_turnLamp (by omega) v3 (by omega), Option.bind_some, un2E, x_bitCount _ hx, Option.bind_some, e3, Option.bind_some, show Int32.toNatClampNeg 0 = 0 from rfl, hg'.1, m_ones _ hx, Option.bind_some]
    exact ⟨_, _, _, _, _, _, _, _, _, rfl, rfl, ha', va_lamp h8 hv hb, hg'⟩
  · rw [if_neg q4, if_neg (by decide), q1, Option.bind_some, if_pos rfl]
    exact ⟨_, hu, de, k, _, _, _, _, _, rfl, rfl, ha, hv, hg⟩
theorem bit_ans (a : Nat) {b : Nat} (ha : a < 2 ^ 31) (hb : b < 32) : (nI a >>> (nI b &&& 31)) &&& (1 : Int32) = if a.testBit b then 1 else 0 := by
  rw [kb_has ha hb, kb_tb]
  cases a.testBit b <;> rfl
theorem c_die (h : plI P plan) (ha : acI P k ks ns bs bk hu de st wt) (hv : vaI P hu de st wt) (hg : pgI hu de st wt pg) (th p1 : Int32) : ∃ r hu' de' k' ks' ns' bs' pg' bk', f_X6_die (nI (P 11)) (nI hu) (nI de) (nI k) ks ns bs p1 = some (r, nI hu', nI de', nI k', ks', ns', bs') ∧ f_X7_die th (nI k) plan pg bk p1 = some (r, 0, nI k', pg', bk') ∧ acI P k' ks' ns' bs' bk' hu' de' st wt ∧ vaI P hu' de' st wt ∧ pgI hu' de' st wt pg' := by
  have h8 := h.2.1
  have hp2 := pw_le h8
  obtain ⟨v1, v2, v3, v4, v5⟩ := id hv
  obtain ⟨g0, g1, g2, g3⟩ := id hg
  unfold f_X6_die f_X7_die
  rw [m_noSpot h, Option.bind_some]
  rcases a_ix (n := P 11) (by omega) p1 with ⟨b, hb, rfl⟩ | ⟨q1, _, _, q4⟩
  · rw [if_pos ((kz_in1 (by omega) _).mpr ⟨b, hb, rfl⟩), if_pos rfl, x_hasSpot (by omega) (by omega), Option.bind_some, if_pos hb, if_neg (by decide), x_lampAt (by omega) (by omega) (by omega), Option.bind_some, show Int32.toNatClampNeg 0 = 0 from rfl, show Int32.toNatClampNeg 1 = 1 from rfl, g0, m_has (by omega) (by omega)]
    simp only [Option.bind_some, lm_0, kz_b01]
    cases eb : hu.testBit b with
    | false =>
      rw [if_pos rfl, if_pos rfl]
      exact ⟨_, hu, de, k, _, _, _, _, _, rfl, rfl, ha, hv, hg⟩
    | true =>
      obtain ⟨k', ks', ns', bs', bk', e1, e2, ha'⟩ := c_note (pg := pg) ha hv hg (tb_dead (st := st) (wt := wt) (show hu < 256 by omega) v3 (show b < 8 by omega) eb)
      have hx := xor_lt (n := 8) v3 (show b < 8 by omega)
      rw [if_neg (by decide), if_neg (by decide), e1, e2, Option.bind_some, Option.bind_some, un4E, un2E, x_turnDead (by omega) v3 (by omega) eb, Option.bind_some, un2E, x_lampAt (by omega) (by omega) (by omega), Option.bind_some, pk_us, g1, show (1 : Int32) <<< (nI b &&& 31) = nI (2 ^ b) from kb_bit b (by omega), fa_xor, bit_ans _ (by omega) (by omega)]
      simp only [lm_2, eb, Bool.true_and]
      cases (de ^^^ 2 ^ b).testBit b with
      | false =>
        rw [if_neg (by decide), if_neg (by decide)]
        exact ⟨_, hu, de ^^^ 2 ^ b, k', _, _, _, _, _, rfl, rfl, ha', va_dead h8 hv hb eb, pg_1 hg _⟩
      | true =>
        rw [if_pos rfl, if_pos rfl]
        exact ⟨_, hu, de ^^^ 2 ^ b, k', _, _, _, _, _, rfl, rfl, ha', va_dead h8 hv hb eb, pg_1 hg _⟩
  · rw [if_neg q4, if_neg (by decide), q1, Option.bind_some, if_pos rfl]
    exact ⟨_, hu, de, k, _, _, _, _, _, rfl, rfl, ha, hv, hg⟩
theorem c_build (h : plI P plan) (ha : acI P k ks ns bs bk hu de st wt) (hv : vaI P hu de st wt) (hg : pgI hu de st wt pg) (th p1 : Int32) : ∃ r st' k' ks' ns' bs' pg' bk', f_X6_build (nI (P 13)) (nI st) (nI k) ks ns bs p1 = some (r, nI st', nI k', ks', ns', bs') ∧ f_X7_build th (nI k) plan pg bk p1 = some (r, 0, nI k', pg', bk') ∧ acI P k' ks' ns' bs' bk' hu de st' wt ∧ vaI P hu de st' wt ∧ pgI hu de st' wt pg' := by
  have h5 := h.2.2.2
  have hp2 := pw_le (n := P 13) (by omega)
  obtain ⟨v1, v2, v3, v4, v5⟩ := id hv
  obtain ⟨g0, g1, g2, g3⟩ := id hg
  unfold f_X6_build f_X7_build f_X7_walls
  rw [show Int32.toNatClampNeg 13 = 13 from rfl, (h.1 13 (by omega)).1, Option.bind_some, m_in32 p1 0 (nI (P 13) - 1) (a' := 0) rfl rfl, Option.bind_some]
  rcases a_ix (n := P 13) (by omega) p1 with ⟨b, hb, rfl⟩ | ⟨_, _, q1, q4⟩
  · obtain ⟨k', ks', ns', bs', bk', e1, e2, ha'⟩ := c_note (pg := pg) ha hv hg (tb_wall (h := hu) (d := de) (wt := wt) (show st < 256 by omega) (show b < 8 by omega) 0)
    have hx := xor_lt (n := 8) (show st < 256 by omega) (show b < 8 by omega)
    unfold f_X2_turnWall
    rw [if_pos ((kz_in1 (by omega) _).mpr ⟨b, hb, rfl⟩), if_neg (by decide), x_hasWall (by omega) (by omega), Option.bind_some, if_pos hb, if_neg (by decide), e1, e2, Option.bind_some, Option.bind_some, un4E, un2E, show Int32.toNatClampNeg 2 = 2 from rfl, pk_us, g2, show (1 : Int32) <<< (nI b &&& 31) = nI (2 ^ b) from kb_bit b (by omega), fa_xor, nmE, Option.bind_some]
    exact ⟨_, _, _, _, _, _, _, _, rfl, rfl, ha', va_wall hv hb, pg_2 hg _⟩
  · rw [if_neg q4, if_pos rfl, q1, Option.bind_some, if_pos rfl]
    exact ⟨_, st, k, _, _, _, _, _, rfl, rfl, ha, hv, hg⟩
theorem c_want (h : plI P plan) (ha : acI P k ks ns bs bk hu de st wt) (hv : vaI P hu de st wt) (hW : wtI wt W) (hg : pgI hu de st wt pg) (th p1 p2 : Int32) : ∃ r wt' W' k' ks' ns' bs' pg' bk', f_X6_want (nI (P 12)) W (nI k) ks ns bs p1 p2 = some (r, W', nI k', ks', ns', bs') ∧ f_X7_want th (nI k) plan pg bk p1 p2 = some (r, 0, nI k', pg', bk') ∧ acI P k' ks' ns' bs' bk' hu de st wt' ∧ vaI P hu de st wt' ∧ wtI wt' W' ∧ pgI hu de st wt' pg' := by
  have h6 := h.2.2.1
  obtain ⟨v1, v2, v3, v4, v5⟩ := id hv
  obtain ⟨g0, g1, g2, g3⟩ := id hg
  unfold f_X6_want f_X7_want
  rw [m_noPoint h, Option.bind_some, m_in32 p2 0 99 (a' := 0) (b' := 99) rfl rfl, Option.bind_some]
  simp only [kz_b01i]
  rcases a_ix (n := P 12) (by omega) p1 with ⟨b, hb, rfl⟩ | ⟨_, q1, _, q4⟩
  · rw [if_pos ((kz_in1 (by omega) _).mpr ⟨b, hb, rfl⟩), if_pos rfl, x_hasPoint (by omega) (by omega), Option.bind_some, if_pos hb, if_neg (by decide)]
    rcases pk_ix p2 (n := 100) (by omega) with q | q | ⟨v, hv2, rfl⟩
    · rw [if_pos q, if_pos (fun z => by have := (fa_le _ _).mp z.1; rw [fa_lt] at q; omega)]
      exact ⟨_, wt, W, k, _, _, _, _, _, rfl, rfl, ha, hv, hW, hg⟩
    · have c2 : ¬ p2 ≤ 99 := by rw [fa_le] at *; rw [nI_toInt (by omega)] at q; have : (99 : Int32).toInt = 99 := rfl; omega
      have c1 : ¬ p2 < 0 := by rw [fa_le] at *; rw [fa_lt]; rw [nI_toInt (by omega)] at q; have : (0 : Int32).toInt = 0 := rfl; omega
      rw [if_neg c1, if_neg c2, if_pos (fun z => c2 z.2)]
      exact ⟨_, wt, W, k, _, _, _, _, _, rfl, rfl, ha, hv, hW, hg⟩
    · have c2 : nI v ≤ (99 : Int32) := nI_le (b := 99) (by omega) (by omega)
      have c1 : (0 : Int32) ≤ nI v := nI_le (a := 0) (by omega) (by omega)
      obtain ⟨k', ks', ns', bs', bk', e1, e2, ha'⟩ := c_note (pg := pg) ha hv hg (tb_want (h := hu) (d := de) (st := st) (v := v) (wt := wt) (show b < 6 by omega))
      rw [if_neg (nI_pos (by omega)), if_pos c2, if_neg (fun z => z ⟨c1, c2⟩), x_wantOf hW (by omega), Option.bind_some, e1, e2, Option.bind_some, Option.bind_some, un4E, un2E, x_tellWant (by omega), Option.bind_some, show (3 : Int32) + nI b = nI (3 + b) from nI_add 3 b, kz_ix (by omega) (by omega), nmE, kz_ix (by omega) (by omega), kz_cl (by omega), g3 b (by omega)]
      exact ⟨_, _, _, _, _, _, _, _, _, rfl, rfl, ha', va_want hv (by omega), wt_upd hW b v, pg_upd hg b v (by omega)⟩
  · rw [if_neg q4, if_neg (show ¬ (1 : Int32) = 0 by decide), q1, Option.bind_some, if_pos rfl]
    exact ⟨_, wt, W, k, _, _, _, _, _, rfl, rfl, ha, hv, hW, hg⟩
end MU
/-! THE TEXT WRITTEN -/
theorem nar_char : ∀ j, j < 256 → vp_nar .char ((Int32.toUInt32 (nI j) % 65536).toInt32) = nI j := fun j hj => by
  rw [pk_vc, pk_char, pk_tn (by omega), Nat.mod_eq_of_lt (by omega)]
theorem c_write {T MT : Nat → Int32} {c : Nat → Nat} {n : Nat} (h : holdT T c n) (hm : holdT MT c n) (th p1 : Int32) : ∃ r c' n' T' MT', f_X6_write (nI n) T p1 = some (r, nI n', T') ∧ f_X7_write th (nI n) MT p1 = some (r, 0, nI n', MT') ∧ holdT T' c' n' ∧ holdT MT' c' n' := by
  have hn := h.1
  unfold f_X6_write f_X7_write f_X5_append
  rw [m_in32 p1 0 255 (a' := 0) (b' := 255) rfl rfl, Option.bind_some]
  simp only [kz_b01i]
  rcases pk_ix p1 (n := 256) (by omega) with q | q | ⟨v, hv, rfl⟩
  · rw [if_pos q, if_pos (fun z => by have := (fa_le _ _).mp z.1; rw [fa_lt] at q; omega)]
    exact ⟨_, c, n, _, _, rfl, rfl, h, hm⟩
  · have c2 : ¬ p1 ≤ 255 := by rw [fa_le] at *; rw [nI_toInt (by omega)] at q; have : (255 : Int32).toInt = 255 := rfl; omega
    have c1 : ¬ p1 < 0 := by rw [fa_le] at *; rw [fa_lt]; rw [nI_toInt (by omega)] at q; have : (0 : Int32).toInt = 0 := rfl; omega
    rw [if_neg c1, if_neg c2, if_pos (fun z => c2 z.2)]
    exact ⟨_, c, n, _, _, rfl, rfl, h, hm⟩
  · have c2 : nI v ≤ (255 : Int32) := nI_le (b := 255) (by omega) (by omega)
    have c1 : (0 : Int32) ≤ nI v := nI_le (a := 0) (by omega) (by omega)
    rw [if_neg (show ¬ nI v < 0 from nI_pos (by omega)), if_pos c2, if_neg (show ¬ ¬ ((0 : Int32) ≤ nI v ∧ nI v ≤ 255) from fun z => z ⟨c1, c2⟩), if_neg (show ¬ nI n < 0 from nI_pos (by omega))]
    rcases Nat.lt_or_ge n 99 with z | z
    · rw [if_pos (show nI n < (99 : Int32) from nI_lt (b := 99) z (by omega)), if_neg (show ¬ nI n = (99 : Int32) from fun e => by have := (nI_eq (b := 99) (by omega) (by omega)).mp e; omega), kz_ix z (by omega), kz_ix z (by omega), kz_cl (by omega), nI_1, nmE, nmE, nar_char v hv, Option.bind_some, un3E, if_neg (by decide)]
      have go : ∀ U : Nat → Int32, holdT U c n → holdT (upd U n (nI v)) (fun i => if i = n then v else c i) (n + 1) := fun U hU => by
        refine ⟨by omega, fun i hi => ?_⟩
        dsimp only
        by_cases e : i = n
        · rw [e, pk_us, if_pos rfl]
          exact ⟨rfl, hv⟩
        · rw [pk_un e, if_neg e]
          exact hU.2 i (by omega)
      exact ⟨_, _, _, _, _, rfl, rfl, go T h, go MT hm⟩
    · have : n = 99 := by omega
      subst this
      rw [if_neg (show ¬ nI 99 < (99 : Int32) by decide), if_pos (show nI 99 = (99 : Int32) from rfl), Option.bind_some, un3E, if_pos rfl]
      exact ⟨_, c, 99, _, _, rfl, rfl, h, hm⟩
