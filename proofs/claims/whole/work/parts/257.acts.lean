/-! WHAT WAS DONE: the class's log, the reference's book -/
noncomputable def tk (ki nu be h d s : Int32) (W : Nat → Int32) : Option (Int32 × Int32 × Int32 × (Nat → Int32)) := if ki = 3 then (f_X2_turnWall s nu).bind (fun u => some (h, d, u, W)) else (if ki = 6 then (f_X2_tellWant W nu be).bind (fun u => some (h, d, s, u)) else (f_X2_putLamp h d nu be).bind (fun z => un2 z (fun u v => some (u, v, s, W))))
/-- the entry leads back from the later layout to the earlier -/
def tbR (ki nu be : Int32) (h' d' s' : Nat) (w' : Nat → Nat) (h d s : Nat) (w : Nat → Nat) : Prop := ∀ W, wtI w' W → ∃ W', tk ki nu be (nI h') (nI d') (nI s') W = some (nI h, nI d, nI s, W') ∧ wtI w W'
def acI (P : Nat → Nat) (k : Nat) (ks ns bs bk : Nat → Int32) (hu de st : Nat) (wt : Nat → Nat) : Prop := k ≤ 14 ∧ ∃ (H D S : Nat → Nat) (V : Nat → Nat → Nat), H k = hu ∧ D k = de ∧ S k = st ∧ V k = wt ∧ ∀ i, i < k → vaI P (H i) (D i) (S i) (V i) ∧ pgI (H i) (D i) (S i) (V i) (fun j => bk (9 * i + j)) ∧ tbR (ks i) (ns i) (bs i) (H (i + 1)) (D (i + 1)) (S (i + 1)) (V (i + 1)) (H i) (D i) (S i) (V i)
theorem tb_xx : ∀ a, a < 256 → ∀ s, s < 8 → a ^^^ 2 ^ s ^^^ 2 ^ s = a := by decide +kernel
theorem tb_h0 : ∀ a, a < 256 → ∀ s, s < 8 → a.testBit s = false → clr (a ^^^ 2 ^ s) s = a ∧ (a ^^^ 2 ^ s) ||| 2 ^ s = a ^^^ 2 ^ s := by decide +kernel
theorem tb_h1 : ∀ a, a < 256 → ∀ s, s < 8 → a.testBit s = true → (a ^^^ 2 ^ s) ||| 2 ^ s = a ∧ clr (a ^^^ 2 ^ s) s = a ^^^ 2 ^ s := by decide +kernel
theorem tb_d0 : ∀ a, a < 256 → ∀ s, s < 8 → a.testBit s = false → clr (clr a s) s = a ∧ clr (a ^^^ 2 ^ s) s = a := by decide +kernel
theorem tb_d1 : ∀ a, a < 256 → ∀ s, s < 8 → a.testBit s = true → clr a s ||| 2 ^ s = a ∧ (a ^^^ 2 ^ s) ||| 2 ^ s = a := by decide +kernel
theorem lm_le (h d s : Nat) : lmN h d s ≤ 2 := by unfold lmN; split <;> (try split) <;> omega
theorem tb_lamp {h d st s : Nat} {wt : Nat → Nat} (hh : h < 256) (hd : d < 256) (hs : s < 8) (hsub : d.testBit s = true → h.testBit s = true) : tbR 1 (nI s) (nI (lmN h d s)) (h ^^^ 2 ^ s) (clr d s) st wt h d st wt := by
  intro W hW
  have x1 := xor_lt (n := 8) hh hs
  have x2 := clr_le d s
  unfold tk
  rw [if_neg (by decide), if_neg (by decide), x_putLamp x1 (by omega) hs (lm_le h d s), Option.bind_some, un2E]
  refine ⟨W, ?_, hW⟩
  cases e1 : h.testBit s with
  | false =>
    have e2 : d.testBit s = false := by
      cases e : d.testBit s with
      | false => rfl
      | true => rw [hsub e] at e1; cases e1
    have ev : lmN h d s = 0 := by unfold lmN; rw [e1]; rfl
    rw [ev, if_pos rfl, if_neg (by decide), (tb_h0 h hh s hs e1).1, (tb_d0 d hd s hs e2).1]
  | true =>
    cases e2 : d.testBit s with
    | false =>
      have ev : lmN h d s = 1 := by unfold lmN; rw [e1, e2]; rfl
      rw [ev, if_neg (by decide), if_neg (by decide), (tb_h1 h hh s hs e1).1, (tb_d0 d hd s hs e2).1]
    | true =>
      have ev : lmN h d s = 2 := by unfold lmN; rw [e1, e2]; rfl
      rw [ev, if_neg (by decide), if_pos rfl, (tb_h1 h hh s hs e1).1, (tb_d1 d hd s hs e2).1]
theorem tb_dead {h d st s : Nat} {wt : Nat → Nat} (hh : h < 256) (hd : d < 256) (hs : s < 8) (hb : h.testBit s = true) : tbR 2 (nI s) (nI (lmN h d s)) h (d ^^^ 2 ^ s) st wt h d st wt := by
  intro W hW
  have x1 := xor_lt (n := 8) hd hs
  unfold tk
  rw [if_neg (by decide), if_neg (by decide), x_putLamp hh (by omega) hs (lm_le h d s), Option.bind_some, un2E]
  refine ⟨W, ?_, hW⟩
  rw [tb_id h hh s hs hb]
  cases e2 : d.testBit s with
  | false =>
    have ev : lmN h d s = 1 := by unfold lmN; rw [hb, e2]; rfl
    rw [ev, if_neg (by decide), if_neg (by decide), (tb_d0 d hd s hs e2).2]
  | true =>
    have ev : lmN h d s = 2 := by unfold lmN; rw [hb, e2]; rfl
    rw [ev, if_neg (by decide), if_pos rfl, (tb_d1 d hd s hs e2).2]
theorem tb_wall {h d st w : Nat} {wt : Nat → Nat} (hst : st < 256) (hw : w < 8) (be : Int32) : tbR 3 (nI w) be h d (st ^^^ 2 ^ w) wt h d st wt := by
  intro W hW
  unfold tk f_X2_turnWall
  rw [if_pos rfl, kb_bit w hw, fa_xor, nmE, Option.bind_some, tb_xx st hst w hw]
  exact ⟨W, rfl, hW⟩
theorem tb_want {h d st p v : Nat} {wt : Nat → Nat} (hp : p < 6) : tbR 6 (nI p) (nI (wt p)) h d st (wtU wt p v) h d st wt := by
  intro W hW
  unfold tk
  rw [if_neg (by decide), if_pos rfl, x_tellWant hp, Option.bind_some]
  refine ⟨_, rfl, fun q hq => ?_⟩
  have := hW q hq
  unfold wtU at this
  by_cases c : q = p
  · rw [c, pk_us]
  · rw [pk_un c, this, if_neg c]
section AC
variable {P : Nat → Nat} {k : Nat} {ks ns bs bk pg : Nat → Int32} {hu de st : Nat} {wt : Nat → Nat}
theorem x_forget (sz : Int32) (ks ns bs : Nat → Int32) : f_X0_forgetFirst sz ks ns bs = some (nI 13, fb_put ks (fun i => ks (i + 1)) 0 13, fb_put ns (fun i => ns (i + 1)) 0 13, fb_put bs (fun i => bs (i + 1)) 0 13) := by
  unfold f_X0_forgetFirst
  have key := lp_up3e (fun n2 a b d i => lp_X0_forgetFirst_2 sz n2 a b d (i + 1)) (fun j => fb_put ks (fun i => ks (i + 1)) 0 j) (fun j => fb_put ns (fun i => ns (i + 1)) 0 j) (fun j => fb_put bs (fun i => bs (i + 1)) 0 j) 13 0 (some (nI 13, fb_put ks (fun i => ks (i + 1)) 0 13, fb_put ns (fun i => ns (i + 1)) 0 13, fb_put bs (fun i => bs (i + 1)) 0 13)) (fun n2 => ?_) (fun n2 j hj => ?_) 1000 0 (Nat.zero_le _) (by omega)
  · rw [fb_put_0, fb_put_0, fb_put_0] at key
    exact key
  · rw [Nat.add_zero, le_X0_forgetFirst_2]
    unfold bk_X0_forgetFirst_2
    rw [nI_1, if_pos (show (14 : Int32) ≤ nI (13 + 1) from nI_le (a := 14) (Nat.le_refl _) (by omega))]
    rfl
  · rw [le_X0_forgetFirst_2]
    unfold bk_X0_forgetFirst_2
    have f1 := fb_put_succ ks (fun i => ks (i + 1)) 0 j
    have f2 := fb_put_succ ns (fun i => ns (i + 1)) 0 j
    have f3 := fb_put_succ bs (fun i => bs (i + 1)) 0 j
    rw [Nat.zero_add] at f1 f2 f3
    rw [nI_1, if_neg (show ¬ (14 : Int32) ≤ nI (j + 1) from nI_ge (b := 14) (by omega) (by omega)), show nI (j + 1) - 1 = nI j from by rw [show (1 : Int32) = nI 1 from rfl, pk_sub (by omega)]; rfl, kz_ix (by omega) (by omega), kz_ix (by omega) (by omega), kz_ix (by omega) (by omega), kz_ix (by omega) (by omega), kz_ix (by omega) (by omega), kz_ix (by omega) (by omega), kz_cl (by omega), kz_cl (by omega), fb_put_out (by omega), fb_put_out (by omega), fb_put_out (by omega), f1, f2, f3, nmE]
theorem m_note_w (hk : k < 14) : ∃ bk', lp_X7_note_50 (nI k) pg 1000 bk 0 = some (nI (k + 1), bk') ∧ (∀ j, j < 9 * k → bk' j = bk j) ∧ (∀ j, j < 9 → bk' (9 * k + j) = pg j) := by
  have key := lp_up1 (fun n2 y i => lp_X7_note_50 (nI k) pg n2 y i) (fun j => fb_put bk pg (9 * k) j) 9 (some (nI (k + 1), fb_put bk pg (9 * k) 9)) (fun n2 => ?_) (fun n2 j hj => ?_) 1000 0 (Nat.zero_le _) (by omega)
  · rw [fb_put_0] at key
    exact ⟨_, key, fun j hj => fb_put_out (by omega), fun j hj => by rw [fb_put_in (by omega) (by omega), show 9 * k + j - 9 * k = j by omega]⟩
  · rw [le_X7_note_50]
    unfold bk_X7_note_50
    rw [if_pos (show (9 : Int32) ≤ nI 9 from nI_le (a := 9) (Nat.le_refl _) (by omega)), nI_1, nmE]
  · rw [le_X7_note_50]
    unfold bk_X7_note_50
    rw [if_neg (show ¬ (9 : Int32) ≤ nI j from nI_ge (b := 9) hj (by omega)), show (9 : Int32) * nI k = nI (9 * k) from pk_mul 9 k, nI_add, kz_ix hj (by omega), kz_ix (by omega) (by omega), kz_cl (by omega), kz_cl (by omega), nmE, nI_1, fb_put_succ bk pg (9 * k) j]
theorem m_note_s (dg : Int32) : lp_X7_note_11 dg pg 1000 bk 0 = bk_X7_note_38 dg pg (fb_put bk (fun i => bk (i + 9)) 0 117) := by
  have key := lp_up1 (fun n2 y i => lp_X7_note_11 dg pg n2 y i) (fun j => fb_put bk (fun i => bk (i + 9)) 0 j) 117 (bk_X7_note_38 dg pg (fb_put bk (fun i => bk (i + 9)) 0 117)) (fun n2 => ?_) (fun n2 j hj => ?_) 1000 0 (Nat.zero_le _) (by omega)
  · rw [fb_put_0] at key
    exact key
  · rw [le_X7_note_11]
    unfold bk_X7_note_11
    rw [if_pos (show (117 : Int32) ≤ nI 117 from nI_le (a := 117) (Nat.le_refl _) (by omega))]
  · rw [le_X7_note_11]
    unfold bk_X7_note_11
    have f1 := fb_put_succ bk (fun i => bk (i + 9)) 0 j
    rw [Nat.zero_add] at f1
    rw [if_neg (show ¬ (117 : Int32) ≤ nI j from nI_ge (b := 117) hj (by omega)), show nI j + 9 = nI (j + 9) from nI_add j 9, kz_ix (by omega) (by omega), kz_ix (by omega) (by omega), kz_cl (by omega), kz_cl (by omega), fb_put_out (by omega), f1, nmE, nI_1]
theorem ac_add (h : acI P k ks ns bs bk hu de st wt) (hk : k < 14) (hv : vaI P hu de st wt) (hg : pgI hu de st wt pg) {ki nu be : Int32} {hu' de' st' : Nat} {wt' : Nat → Nat} (hb : tbR ki nu be hu' de' st' wt' hu de st wt) {bk' : Nat → Int32} (q1 : ∀ j, j < 9 * k → bk' j = bk j) (q2 : ∀ j, j < 9 → bk' (9 * k + j) = pg j) : acI P (k + 1) (upd ks k ki) (upd ns k nu) (upd bs k be) bk' hu' de' st' wt' := by
  obtain ⟨_, H, D, S, V, e1, e2, e3, e4, hh⟩ := h
  refine ⟨by omega, fun i => if i ≤ k then H i else hu', fun i => if i ≤ k then D i else de', fun i => if i ≤ k then S i else st', fun i => if i ≤ k then V i else wt', if_neg (by omega), if_neg (by omega), if_neg (by omega), if_neg (by omega), fun i hi => ?_⟩
  simp only [if_pos (show i ≤ k by omega)]
  rcases Nat.lt_or_ge i k with z | z
  · obtain ⟨a, b, d⟩ := hh i z
    simp only [if_pos (show i + 1 ≤ k by omega)]
    rw [pk_un (by omega), pk_un (by omega), pk_un (by omega)]
    exact ⟨a, pg_same b (fun p hp => q1 _ (by omega)), d⟩
  · have : i = k := by omega
    subst this
    simp only [if_neg (show ¬ i + 1 ≤ i by omega)]
    rw [pk_us, pk_us, pk_us, e1, e2, e3, e4]
    exact ⟨hv, pg_same hg q2, hb⟩
theorem ac_shift (h : acI P 14 ks ns bs bk hu de st wt) : acI P 13 (fb_put ks (fun i => ks (i + 1)) 0 13) (fb_put ns (fun i => ns (i + 1)) 0 13) (fb_put bs (fun i => bs (i + 1)) 0 13) (fb_put bk (fun i => bk (i + 9)) 0 117) hu de st wt := by
  obtain ⟨_, H, D, S, V, e1, e2, e3, e4, hh⟩ := h
  refine ⟨by omega, fun i => H (i + 1), fun i => D (i + 1), fun i => S (i + 1), fun i => V (i + 1), e1, e2, e3, e4, fun i hi => ?_⟩
  obtain ⟨a, b, d⟩ := hh (i + 1) (by omega)
  rw [fb_put_in (by omega) (by omega), fb_put_in (by omega) (by omega), fb_put_in (by omega) (by omega), Nat.sub_zero]
  exact ⟨a, pg_same b (fun p hp => by rw [fb_put_in (by omega) (by omega), Nat.sub_zero, show 9 * i + p + 9 = 9 * (i + 1) + p by omega]), d⟩
theorem x_add13 (hk : k < 14) (ki nu be : Int32) : bk_X0_add_13 (nI k) ks ns bs ki nu be = some (nI (k + 1), upd ks k ki, upd ns k nu, upd bs k be) := by
  unfold bk_X0_add_13
  rw [if_neg (nI_pos (by omega)), if_pos (show nI k < (14 : Int32) from nI_lt (b := 14) hk (by omega)), kz_ix hk (by omega), kz_ix hk (by omega), kz_ix hk (by omega), kz_cl (by omega), nI_1, nmE]
theorem c_note (h : acI P k ks ns bs bk hu de st wt) (hv : vaI P hu de st wt) (hg : pgI hu de st wt pg) {ki nu be : Int32} {hu' de' st' : Nat} {wt' : Nat → Nat} (hb : tbR ki nu be hu' de' st' wt' hu de st wt) : ∃ k' ks' ns' bs' bk', f_X0_add (nI k) ks ns bs ki nu be = some (nI k', ks', ns', bs') ∧ f_X7_note (nI k) pg bk = some (nI k', bk') ∧ acI P k' ks' ns' bs' bk' hu' de' st' wt' := by
  unfold f_X0_add f_X7_note
  have hk := h.1
  rcases Nat.lt_or_ge k 14 with z | z
  · obtain ⟨bk', eb, q1, q2⟩ := m_note_w (pg := pg) (bk := bk) z
    rw [if_pos (show nI k < (14 : Int32) from nI_lt (b := 14) z (by omega)), if_neg (show ¬ nI k = (14 : Int32) from fun e => by have := (nI_eq (b := 14) (by omega) (by omega)).mp e; omega), x_add13 z, eb]
    exact ⟨_, _, _, _, _, rfl, rfl, ac_add h z hv hg hb q1 q2⟩
  · have : k = 14 := by omega
    subst this
    obtain ⟨bk', eb, q1, q2⟩ := m_note_w (k := 13) (pg := pg) (bk := fb_put bk (fun i => bk (i + 9)) 0 117) (by omega)
    rw [if_neg (show ¬ nI 14 < (14 : Int32) by decide), if_pos (show nI 14 = (14 : Int32) from rfl), x_forget, Option.bind_some, un4E, x_add13 (by omega), m_note_s]
    unfold bk_X7_note_38
    rw [show nI 14 - 1 = nI 13 from by decide, nmE, eb]
    exact ⟨_, _, _, _, _, rfl, rfl, ac_add (ac_shift h) (by omega) hv hg hb q1 q2⟩
theorem m_undo_cp {m : Nat} (hm : m < 14) (th : Int32) : ∃ pg', lp_X7_undo_27 th (nI m) bk 1000 pg 0 = some (nI m, th, nI m, pg') ∧ ∀ j, j < 9 → pg' j = bk (9 * m + j) := by
  have key := lp_up1 (fun n2 y i => lp_X7_undo_27 th (nI m) bk n2 y i) (fun j => fb_put pg (fun i => bk (9 * m + i)) 0 j) 9 (some (nI m, th, nI m, fb_put pg (fun i => bk (9 * m + i)) 0 9)) (fun n2 => ?_) (fun n2 j hj => ?_) 1000 0 (Nat.zero_le _) (by omega)
  · rw [fb_put_0] at key
    exact ⟨_, key, fun j hj => by rw [fb_put_in (by omega) (by omega), Nat.sub_zero]⟩
  · rw [le_X7_undo_27]
    unfold bk_X7_undo_27
    rw [if_pos (show (9 : Int32) ≤ nI 9 from nI_le (a := 9) (Nat.le_refl _) (by omega))]
  · rw [le_X7_undo_27]
    unfold bk_X7_undo_27
    have f1 := fb_put_succ pg (fun i => bk (9 * m + i)) 0 j
    rw [Nat.zero_add] at f1
    rw [if_neg (show ¬ (9 : Int32) ≤ nI j from nI_ge (b := 9) hj (by omega)), show (9 : Int32) * nI m = nI (9 * m) from pk_mul 9 m, nI_add, kz_ix (by omega) (by omega), kz_ix hj (by omega), kz_cl (by omega), kz_cl (by omega), nmE, nI_1, f1]
theorem c_undo (h : acI P k ks ns bs bk hu de st wt) (hv : vaI P hu de st wt) {W : Nat → Int32} (hW : wtI wt W) (hg : pgI hu de st wt pg) (th : Int32) : ∃ r k' hu' de' st' wt' W' pg', f_X6_undo (nI hu) (nI de) (nI st) W (nI k) ks ns bs = some (r, nI hu', nI de', nI st', W', nI k') ∧ f_X7_undo th (nI k) pg bk = some (r, 0, nI k', pg') ∧ acI P k' ks ns bs bk hu' de' st' wt' ∧ vaI P hu' de' st' wt' ∧ wtI wt' W' ∧ pgI hu' de' st' wt' pg' := by
  obtain ⟨hk, H, D, S, V, e1, e2, e3, e4, hh⟩ := id h
  unfold f_X6_undo f_X7_undo f_X0_takeBack
  rcases Nat.eq_zero_or_pos k with z | z
  · subst z
    rw [if_pos (show nI 0 < (1 : Int32) by decide), if_pos (show nI 0 = (0 : Int32) from rfl)]
    exact ⟨-3, 0, hu, de, st, wt, W, pg, rfl, rfl, h, hv, hW, hg⟩
  · obtain ⟨m, rfl⟩ : ∃ m, k = m + 1 := ⟨k - 1, by omega⟩
    obtain ⟨a, b, d⟩ := hh m (by omega)
    rw [e1, e2, e3, e4] at d
    obtain ⟨W', et, hW'⟩ := d W hW
    obtain ⟨pg', em, q⟩ := m_undo_cp (pg := pg) (bk := bk) (show m < 14 by omega) 0
    have ec : nI (m + 1) - 1 = nI m := by rw [show (1 : Int32) = nI 1 from rfl, pk_sub (by omega)]; rfl
    rw [if_neg (show ¬ nI (m + 1) < (1 : Int32) from nI_nlt (b := 1) (by omega) (by omega)), if_pos (show nI (m + 1) ≤ (14 : Int32) from nI_le (b := 14) (by omega) (by omega)), if_neg (nI_ne0 (by omega) (by omega)), ec, nmE, nmE, em, kz_ix (by omega) (by omega), kz_ix (by omega) (by omega), kz_ix (by omega) (by omega), kz_ix (by omega) (by omega), kz_ix (by omega) (by omega), kz_ix (by omega) (by omega), kz_ix (by omega) (by omega), kz_cl (by omega)]
    refine ⟨nI m, m, H m, D m, S m, V m, W', pg', ?_, rfl, ⟨by omega, H, D, S, V, rfl, rfl, rfl, rfl, fun i hi => hh i (by omega)⟩, a, hW', pg_same b q⟩
    unfold tk at et
    by_cases c3 : ks m = 3
    · rw [if_pos c3] at et ⊢
      cases e5 : f_X2_turnWall (nI st) (ns m) with
      | none => rw [e5] at et; cases et
      | some u =>
        rw [e5, Option.bind_some] at et
        simp only [Option.some.injEq, Prod.mk.injEq] at et
        obtain ⟨x1, x2, x3, x4⟩ := et
        have g : some (nI m, nI hu, nI de, u, W, nI m) = some (nI m, nI (H m), nI (D m), nI (S m), W', nI m) := by rw [x1, x2, x3, x4]
        exact g
    · rw [if_neg c3] at et ⊢
      by_cases c6 : ks m = 6
      · rw [if_pos c6] at et ⊢
        cases e5 : f_X2_tellWant W (ns m) (bs m) with
        | none => rw [e5] at et; cases et
        | some u =>
          rw [e5, Option.bind_some] at et
          simp only [Option.some.injEq, Prod.mk.injEq] at et
          obtain ⟨x1, x2, x3, x4⟩ := et
          have g : some (nI m, nI hu, nI de, nI st, u, nI m) = some (nI m, nI (H m), nI (D m), nI (S m), W', nI m) := by rw [x1, x2, x3, x4]
          exact g
      · rw [if_neg c6] at et ⊢
        cases e5 : f_X2_putLamp (nI hu) (nI de) (ns m) (bs m) with
        | none => rw [e5] at et; cases et
        | some u =>
          obtain ⟨u1, u2⟩ := u
          rw [e5, Option.bind_some, un2E] at et
          simp only [Option.some.injEq, Prod.mk.injEq] at et
          obtain ⟨x1, x2, x3, x4⟩ := et
          have g : some (nI m, u1, u2, nI st, W, nI m) = some (nI m, nI (H m), nI (D m), nI (S m), W', nI m) := by rw [x1, x2, x3, x4]
          exact g
end AC
