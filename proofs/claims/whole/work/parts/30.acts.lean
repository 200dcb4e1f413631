/-! the acts: fee, price, ask, giveBack -/
theorem BK_low {R : Nat} {N : Nat → Nat} {a e c i m : Nat} {pr pr' fr sz lm pc pd qu : Nat → Int32} {ask wai fee fee' tak tak' : Int32} {w w' : Nat → Int32} (hR : R ≤ 4) (hN : ∀ r, r < R → N r ≤ 9) (B : BKg R N a e c i m pr fr sz lm pc pd qu ask wai fee tak w) (out : ∀ j, 6 ≤ j → w' j = w j) (hp : ∀ r, r < R → pr' r = w' r ∧ ∃ v, 1 ≤ v ∧ v ≤ 9 ∧ w' r = nI v) (hf : fee' = w' 4) (ht : tak' = w' 5) : BKg R N a e c i m pr' fr sz lm pc pd qu ask wai fee' tak' w' := by
  obtain ⟨⟨ha, hask, hw6⟩, hPN, hPt, hOw, hpr, ⟨hfr, hfr0⟩, ⟨hfee, htak⟩, ⟨hci, him, hwai, hw7⟩, ⟨hq1, hq2⟩, hqm, hqd⟩ := id B
  refine ⟨⟨ha, hask, by rw [out 6 (by omega)]; exact hw6⟩, fun x g1 g2 => ?_, fun x g1 g2 g3 => ?_, fun r' hr' s' hs' => ?_, hp, ⟨fun r' hr' => ?_, hfr0⟩, ⟨hf, ht⟩, ⟨hci, him, hwai, by rw [out 7 (by omega)]; exact hw7⟩, ⟨fun j hj => by rw [out (8 + j) (by omega)]; exact hq1 j hj, fun t ht => by rw [out (8 + i + t) (by omega)]; exact hq2 t ht⟩, fun x hx => ?_, hqd⟩
  · unfold PtN
    rw [out _ (by omega), out _ (by omega)]
    exact hPN x g1 g2
  · obtain ⟨hd, hst⟩ := hPt x g1 g2 g3
    refine ⟨by rw [out _ (by omega)]; exact hd, ?_⟩
    rcases hst with ⟨t1, n', r', s', t2, t3, t4, t5, t6, t7, t8⟩ | ⟨t1, t2, t3⟩ | ⟨t1, t2, t3, t4⟩
    · exact Or.inl ⟨by rw [out _ (by omega)]; exact t1, n', r', s', by rw [out _ (by omega)]; exact t2, t3, t4, by rw [out _ (by omega)]; exact t5, by rw [out _ (by omega)]; exact t6, t7, fun k hk => by rw [out _ (by omega)]; exact t8 k hk⟩
    · exact Or.inr (Or.inl ⟨by rw [out _ (by omega)]; exact t1, t2, by rw [out _ (by omega)]; exact t3⟩)
    · exact Or.inr (Or.inr ⟨by rw [out _ (by omega)]; exact t1, t2, by rw [out _ (by omega)]; exact t3, t4⟩)
  · have e0 := out (13 + 9 * r' + s') (by omega)
    rcases hOw r' hr' s' hs' with h | ⟨x, n', s0, q1, q2, q3, q4, q5, q6, q7, q8, q9, q10⟩
    · exact Or.inl (by rw [e0]; exact h)
    · exact Or.inr ⟨x, n', s0, q1, q2, q3, by rw [e0]; exact q4, by rw [out _ (by omega)]; exact q5, by rw [out _ (by omega)]; exact q6, by rw [out _ (by omega)]; exact q7, by rw [out _ (by omega)]; exact q8, q9, q10⟩
  · rw [hfr r' hr']
    refine FA_cong (fun k hk => ?_)
    unfold frW
    rw [out _ (by omega)]
  · obtain ⟨x', q1, q2, q3, q4, q5⟩ := hqm x (by omega)
    exact ⟨x', q1, q2, q3, q4, by rw [out _ (by omega)]; exact q5⟩
theorem HallP_N {R : Nat} {N : Nat → Nat} {al : Nat → Nat → Bool} {vw : Nat → Nat → Nat} {se jo vi : Nat → Int32} (H : HallP R N al vw se jo vi) : R ≤ 4 ∧ (∀ r, r < R → N r ≤ 9) ∧ ∀ r, r < R → se r = nI (N r) := ⟨H.1, fun r hr => (H.2.2 r hr).1.2, fun r hr => (H.2.2 r hr).2.1⟩
theorem m_in09 (x : Int32) : fX9_in x.toInt64 (0 : Int64) (9 : Int64) = some (bI (inR x 0 9)) := m_inR x 0 9
theorem c_rgP {α : Type} {x : Int32} {lo hi : Nat} (a b : α) : (if x < nI lo then a else if x ≤ nI hi then b else a) = (if bI (inR x lo hi) = 0 then a else b) := by
  unfold inR
  by_cases h1 : x < nI lo
  · rw [if_pos h1, decide_eq_false (fun h => by have := (fa_lt _ _).mp h1; have := (fa_le _ _).mp h.1; omega), ib_f]
  · rw [if_neg h1]
    by_cases h2 : x ≤ nI hi
    · rw [if_pos h2, decide_eq_true ⟨fa_of_nlt h1, h2⟩, ib_t]
    · rw [if_neg h2, decide_eq_false (fun h => h2 h.2), ib_f]
theorem c_rg09 {α : Type} {x : Int32} (a b : α) : (if x < 0 then a else if x ≤ 9 then b else a) = (if bI (inR x 0 9) = 0 then a else b) := c_rgP (lo := 0) (hi := 9) a b
theorem O_fee {R : Nat} {N : Nat → Nat} {pr fr sz lm pc pd qu w book : Nat → Int32} {ask wai fee tak : Int32} {x u : Nat} {pA : Nat → Nat → Nat → Int32} {pV : Nat → Nat → Int32} (hR : R ≤ 4) (hN : ∀ r, r < R → N r ≤ 9) (B : BK R N pr fr sz lm pc pd qu ask wai fee tak w) (P : PastR R N x u pA pV book) (th x1 : Int32) :
    ∃ (ans fee' : Int32) (x' u' : Nat) (pA' : Nat → Nat → Nat → Int32) (pV' : Nat → Nat → Int32) (w' book' : Nat → Int32),
      fX8_fee ask wai fee tak pr fr sz lm pc pd qu (nI x) (nI u) pA pV x1 = some (ans, fee', nI x', nI u', pA', pV') ∧ fX9_fee th (nI u) w book x1 = some (ans, 0, nI u', w', book') ∧ BK R N pr fr sz lm pc pd qu ask wai fee' tak w' ∧ PastR R N x' u' pA' pV' book' ∧ ∀ i, 14 ≤ i → pA' i = pA i ∧ pV' i = pV i := by
  obtain ⟨x', u', pA', pV', book', e1, e2, P', hp⟩ := L_note hR hN B P
  unfold fX8_fee fX9_fee
  rw [m_in09, Option.bind_some, c_rg09]
  cases inR x1 0 9 with
  | false =>
    rw [ib_f, ib_f]
    exact ⟨_, _, x, u, pA, pV, w, book, rfl, rfl, B, P, fun _ _ => ⟨rfl, rfl⟩⟩
  | true =>
    rw [ib_t, ib_t, e2, Option.bind_some]
    unfold fX0_currentFee fX0_setFee
    rw [Option.bind_some, e1, Option.bind_some, Option.bind_some]
    obtain ⟨a, q, B⟩ := B
    obtain ⟨-, -, -, -, hpr, -, ⟨hfee, htak⟩, -⟩ := id B
    refine ⟨fee, x1, x', u', pA', pV', upd w 4 x1, book', rfl, ?_, ⟨a, q, ?_⟩, P', hp⟩
    · rw [hfee]
      rfl
    · exact BK_low hR hN B (fun j hj => upd_ne (by omega)) (fun r hr => by rw [upd_ne (by omega)]; exact hpr r hr) (upd_at _ _ _).symm (by rw [upd_ne (by omega)]; exact htak)
theorem O_price {R : Nat} {N : Nat → Nat} {al : Nat → Nat → Bool} {vw : Nat → Nat → Nat} {se jo vi mn am vm : Nat → Int32} (H : HallP R N al vw se jo vi) (HM : HallM R N al vw mn am vm) {pr fr sz lm pc pd qu w book : Nat → Int32} {ask wai fee tak : Int32} {x u : Nat} {pA : Nat → Nat → Nat → Int32} {pV : Nat → Nat → Int32} (B : BK R N pr fr sz lm pc pd qu ask wai fee tak w) (P : PastR R N x u pA pV book) (f1 f2 f3 f4 th h1 h2 h3 x1 x2 : Int32) :
    ∃ (ans wai' tak' g1 g2 g3 g4 k1 k2 k3 : Int32) (pr' fr' pc' pd' qu' : Nat → Int32) (x' u' : Nat) (pA' : Nat → Nat → Nat → Int32) (pV' : Nat → Nat → Int32) (w' book' : Nat → Int32),
      fX8_price (nI R) se jo vi ask wai fee tak pr fr sz lm pc pd qu (nI x) (nI u) f1 f2 f3 f4 pA pV x1 x2 = some (ans, wai', tak', pr', fr', pc', pd', qu', nI x', nI u', g1, g2, g3, g4, pA', pV') ∧ fX9_price th (nI R) (nI u) h1 h2 h3 mn vm am w book x1 x2 = some (ans, 0, nI u', k1, k2, k3, w', book') ∧ BK R N pr' fr' sz lm pc' pd' qu' ask wai' fee tak' w' ∧ PastR R N x' u' pA' pV' book' ∧ ∀ i, 14 ≤ i → pA' i = pA i ∧ pV' i = pV i := by
  obtain ⟨hR, hN, hse⟩ := HallP_N H
  obtain ⟨x', u', pA', pV', book', e1, e2, P', hp⟩ := L_note hR hN B P
  unfold fX8_price fX9_price
  rw [c_hasRowQ, Option.bind_some, m_noRow (by omega), Option.bind_some]
  cases hr : inQ x1 R with
  | false =>
    rw [ib_f, Bool.not_false, ib_t]
    exact ⟨_, _, _, _, _, _, _, _, _, _, _, _, _, _, _, x, u, pA, pV, w, book, rfl, rfl, B, P, fun _ _ => ⟨rfl, rfl⟩⟩
  | true =>
    obtain ⟨r, hrR, rfl⟩ := inQ_at (by omega) hr
    rw [ib_t, Bool.not_true, ib_f, c_isPriceR, Option.bind_some, m_in19, Option.bind_some]
    cases hv : inR x2 1 9 with
    | false =>
      rw [ib_f, ib_f]
      exact ⟨_, _, _, _, _, _, _, _, _, _, _, _, _, _, _, x, u, pA, pV, w, book, rfl, rfl, B, P, fun _ _ => ⟨rfl, rfl⟩⟩
    | true =>
      obtain ⟨v, v1, v9, rfl⟩ := inR_at (by decide) (by decide) hv
      obtain ⟨a, q, B⟩ := B
      obtain ⟨⟨-, hask, -⟩, -, -, -, hpr, -, ⟨hfee, htak⟩, -⟩ := id B
      subst hask
      have B1 : BKg R N a 0 q q 0 (upd pr r (nI v)) fr sz lm pc pd qu (nI a) wai fee tak (upd w r (nI v)) := BK_low hR hN B (fun j hj => upd_ne (by omega)) (fun r' hr' => by
        by_cases er : r' = r
        · subst er
          rw [upd_at, upd_at]
          exact ⟨rfl, v, v1, v9, rfl⟩
        · rw [upd_ne er, upd_ne er]
          exact hpr r' hr') (by rw [upd_ne (by omega)]; exact hfee) (by rw [upd_ne (by omega)]; exact htak)
      obtain ⟨g1, g2, g3, g4, wai', tak', k1, k2, k3, fr', pc', pd', qu', w', q', l1, l2, B2⟩ := L_letIn H HM B1 f1 f2 f3 f4 h1 h2 h3
      rw [ib_t, ib_t, c_priceOf (by omega), Option.bind_some, e1, Option.bind_some, e2, Option.bind_some, lp0x, Nat.zero_add, if_neg (nI_in (by omega) (by decide)), if_neg (nI_in (by omega) (by decide)), nI_clamp (by omega), l2, Option.bind_some]
      unfold fX0_setPrice
      rw [c_isRow1 (by omega), Option.bind_some, i1_t, if_neg (nI_in (by omega) (by decide)), nI_clamp (by omega), Option.bind_some, l1, Option.bind_some]
      refine ⟨_, wai', tak', g1, g2, g3, g4, k1, k2, k3, _, fr', pc', pd', qu', x', u', pA', pV', w', book', rfl, ?_, ⟨a, q', B2⟩, P', hp⟩
      rw [(hpr r hrR).1]
theorem O_ask {R : Nat} {N : Nat → Nat} {al : Nat → Nat → Bool} {vw : Nat → Nat → Nat} {se jo vi mn am vm : Nat → Int32} (H : HallP R N al vw se jo vi) (HM : HallM R N al vw mn am vm) {pr fr sz lm pc pd qu w book : Nat → Int32} {ask wai fee tak : Int32} {x u : Nat} {pA : Nat → Nat → Nat → Int32} {pV : Nat → Nat → Int32} (B : BK R N pr fr sz lm pc pd qu ask wai fee tak w) (P : PastR R N x u pA pV book) (f1 f2 f3 f4 th h1 h2 h3 x1 x2 : Int32) :
    ∃ (ans ask' wai' tak' g1 g2 g3 g4 k1 k2 k3 : Int32) (fr' sz' lm' pc' pd' qu' : Nat → Int32) (x' u' : Nat) (pA' : Nat → Nat → Nat → Int32) (pV' : Nat → Nat → Int32) (w' book' : Nat → Int32),
      fX8_ask (nI R) se jo vi ask wai fee tak pr fr sz lm pc pd qu (nI x) (nI u) f1 f2 f3 f4 pA pV x1 x2 = some (ans, ask', wai', tak', fr', sz', lm', pc', pd', qu', nI x', nI u', g1, g2, g3, g4, pA', pV') ∧ fX9_ask th (nI R) (nI u) h1 h2 h3 mn vm am w book x1 x2 = some (ans, 0, nI u', k1, k2, k3, w', book') ∧ BK R N pr fr' sz' lm' pc' pd' qu' ask' wai' fee tak' w' ∧ PastR R N x' u' pA' pV' book' ∧ ∀ i, 14 ≤ i → pA' i = pA i ∧ pV' i = pV i := by
  obtain ⟨hR, hN, hse⟩ := HallP_N H
  obtain ⟨x', u', pA', pV', book', e1, e2, P', hp⟩ := L_note hR hN B P
  unfold fX8_ask fX9_ask
  rw [c_isSizeR, Option.bind_some, m_isAskR, Option.bind_some]
  cases hs : inR x1 1 6 with
  | false =>
    rw [ib_f, Bool.false_and, ib_f]
    exact ⟨_, _, _, _, _, _, _, _, _, _, _, _, _, _, _, _, _, x, u, pA, pV, w, book, rfl, rfl, B, P, fun _ _ => ⟨rfl, rfl⟩⟩
  | true =>
    obtain ⟨n, n1, n6, rfl⟩ := inR_at (by decide) (by decide) hs
    rw [ib_t, Bool.true_and, c_isPriceR, Option.bind_some]
    cases hv : inR x2 1 9 with
    | false =>
      rw [ib_f, ib_f]
      exact ⟨_, _, _, _, _, _, _, _, _, _, _, _, _, _, _, _, _, x, u, pA, pV, w, book, rfl, rfl, B, P, fun _ _ => ⟨rfl, rfl⟩⟩
    | true =>
      obtain ⟨l, l1, l9, rfl⟩ := inR_at (by decide) (by decide) hv
      have B0 := B
      obtain ⟨a, q, B⟩ := B
      obtain ⟨⟨ha, hask, -⟩, -, -, -, hpr, -, ⟨hfee, htak⟩, ⟨-, him, hwai, -⟩, -⟩ := id B
      subst hask
      rw [Nat.add_zero] at hwai
      subst hwai
      have hok := bst_ok H B n6 l
      rw [ib_t, ib_t, L_look H B n1 n6 l9, Option.bind_some, c_isFullFor hok ha (by omega), Option.bind_some, m_mayAsk HM B n1 n6 l9 hok.1, Option.bind_some]
      dsimp only
      cases hf : fullS a q (bst R N al vw w n l) with
      | true =>
        rw [ib_t, Bool.not_true, ib_f]
        exact ⟨_, _, _, _, _, _, _, _, _, _, _, _, _, _, _, _, _, x, u, pA, pV, w, book, rfl, rfl, B0, P, fun _ _ => ⟨rfl, rfl⟩⟩
      | false =>
        obtain ⟨wai', tak', fr', pc', pd', qu', w', q', a1, a2, B2⟩ := L_admit H HM B n1 n6 l1 l9 hf (plI (bst R N al vw w n l)) (fvI (bst R N al vw w n l)) (nI (bst R N al vw w n l).1)
        rw [ib_f, Bool.not_false, ib_t, e1, Option.bind_some, a1, Option.bind_some, e2, Option.bind_some, a2, Option.bind_some]
        dsimp only
        rw [c6, B2.1.2.2]
        exact ⟨_, _, wai', tak', _, _, _, _, _, _, _, fr', _, _, pc', pd', qu', x', u', pA', pV', w', book', rfl, rfl, ⟨a + 1, q', B2⟩, P', hp⟩
theorem O_giveBack {R : Nat} {N : Nat → Nat} {al : Nat → Nat → Bool} {vw : Nat → Nat → Nat} {se jo vi mn am vm : Nat → Int32} (H : HallP R N al vw se jo vi) (HM : HallM R N al vw mn am vm) {pr fr sz lm pc pd qu w book : Nat → Int32} {ask wai fee tak : Int32} {x u : Nat} {pA : Nat → Nat → Nat → Int32} {pV : Nat → Nat → Int32} (B : BK R N pr fr sz lm pc pd qu ask wai fee tak w) (P : PastR R N x u pA pV book) (f1 f2 f3 f4 th h1 h2 h3 x1 : Int32) :
    ∃ (ans wai' tak' g1 g2 g3 g4 k1 k2 k3 : Int32) (fr' pc' pd' qu' : Nat → Int32) (x' u' : Nat) (pA' : Nat → Nat → Nat → Int32) (pV' : Nat → Nat → Int32) (w' book' : Nat → Int32),
      fX8_giveBack (nI R) se jo vi ask wai fee tak pr fr sz lm pc pd qu (nI x) (nI u) f1 f2 f3 f4 pA pV x1 = some (ans, wai', tak', fr', pc', pd', qu', nI x', nI u', g1, g2, g3, g4, pA', pV') ∧ fX9_giveBack th (nI R) (nI u) h1 h2 h3 mn vm am w book x1 = some (ans, 0, nI u', k1, k2, k3, w', book') ∧ BK R N pr fr' sz lm pc' pd' qu' ask wai' fee tak' w' ∧ PastR R N x' u' pA' pV' book' ∧ ∀ i, 14 ≤ i → pA' i = pA i ∧ pV' i = pV i := by
  obtain ⟨hR, hN, hse⟩ := HallP_N H
  obtain ⟨x', u', pA', pV', book', e1, e2, P', hp⟩ := L_note hR hN B P
  have B0 := B
  obtain ⟨a, q, B⟩ := B
  obtain ⟨⟨ha, hask, hw6⟩, -⟩ := id B
  subst hask
  unfold fX8_giveBack fX9_giveBack
  rw [c_knowsR, Option.bind_some, m_noParty hw6, Option.bind_some]
  cases hs : inR x1 1 a with
  | false =>
    rw [ib_f, Bool.not_false, ib_t]
    exact ⟨_, _, _, _, _, _, _, _, _, _, _, _, _, _, x, u, pA, pV, w, book, rfl, rfl, B0, P, fun _ _ => ⟨rfl, rfl⟩⟩
  | true =>
    obtain ⟨p, p1, pa, rfl⟩ := inR_at (by omega) (by decide) hs
    rw [ib_t, Bool.not_true, ib_f, c_isSeated ha p1 pa, Option.bind_some, m_at p1, Option.bind_some, pl2, if_neg (nI_in (by omega) (by decide)), nI_clamp (by omega), show 43 + 6 * p + 2 = 45 + 6 * p by omega]
    have hiff := seated_iff hR hN B p1 pa (by omega)
    by_cases hst : w (45 + 6 * p) = nI 1
    · obtain ⟨bk, tak1, g1, g2, g3, g4, wai', tak', k1, k2, k3, fr1, pc1, pd1, fr', pc', pd', qu', w', q', r1, r2, r3, B2⟩ := L_return H HM B p1 pa hst f1 f2 f3 f4 h1 h2 h3
      rw [decide_eq_true (hiff.mpr hst), ib_t, if_pos (show w (45 + 6 * p) = 1 from hst), e1, Option.bind_some, r1, Option.bind_some, r2, Option.bind_some, e2, Option.bind_some, r3, Option.bind_some]
      exact ⟨_, wai', tak', _, _, _, _, _, _, _, fr', pc', pd', qu', x', u', pA', pV', w', book', rfl, rfl, ⟨a, q', B2⟩, P', hp⟩
    · rw [decide_eq_false (fun h => hst (hiff.mp h)), ib_f, if_neg (show ¬ w (45 + 6 * p) = 1 from hst)]
      exact ⟨_, _, _, _, _, _, _, _, _, _, _, _, _, _, x, u, pA, pV, w, book, rfl, rfl, B0, P, fun _ _ => ⟨rfl, rfl⟩⟩
