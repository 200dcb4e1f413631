/-! judge: one statement -/
theorem m_sitsQ {a : Nat} {w : Nat → Int32} (ha : a ≤ 30) (hw6 : w 6 = nI a) {p : Nat} (hp : p < 1000) : fX9_sits w (nI p) = some (bI (decide ((1 ≤ p ∧ p ≤ a) ∧ w (45 + 6 * p) = nI 1))) := by
  by_cases h : 1 ≤ p ∧ p ≤ a
  · rw [m_sits ha hw6 h.1 h.2]
    congr 2
    exact decide_eq_decide.mpr ⟨fun g => ⟨h, g⟩, fun g => g.2⟩
  · unfold fX9_sits
    rw [c6, hw6, show (1 : Int64) = (1 : Int32).toInt64 from rfl, m_in, Option.bind_some, decide_eq_false (fun g => h ⟨by have := (fa_le _ _).mp g.1; rw [toInt_nI (by omega)] at this; have e : (1 : Int32).toInt = 1 := rfl; omega, by have := (fa_le _ _).mp g.2; rw [toInt_nI (by omega), toInt_nI (by omega)] at this; omega⟩), ib_f, decide_eq_false (fun g => h g.1)]
    rfl
theorem c_isSeatedQ {R : Nat} {N : Nat → Nat} {a q : Nat} {pr fr sz lm pc pd qu : Nat → Int32} {ask wai fee tak : Int32} {w : Nat → Int32} (hR : R ≤ 4) (hN : ∀ r, r < R → N r ≤ 9) (B : BKg R N a 0 q q 0 pr fr sz lm pc pd qu ask wai fee tak w) {p : Nat} (hp : p < 1000) : fX0_isSeated (nI a) pc (nI p) = some (bI (decide ((1 ≤ p ∧ p ≤ a) ∧ w (45 + 6 * p) = nI 1))) := by
  have ha := B.1.1
  by_cases h : 1 ≤ p ∧ p ≤ a
  · rw [c_isSeated ha h.1 h.2]
    congr 2
    exact decide_eq_decide.mpr ⟨fun g => ⟨h, (seated_iff hR hN B h.1 h.2 (by omega)).mp g⟩, fun g => (seated_iff hR hN B h.1 h.2 (by omega)).mpr g.2⟩
  · unfold fX0_isSeated fX0_placeOf
    rw [c_knows ha (by omega), decide_eq_false h, Option.bind_some, ib_f, Option.bind_some, if_pos rfl, decide_eq_false (fun g => h g.1)]
    rfl
theorem bok (b : Bool) : ¬ ¬ (bI b = 0 ∨ bI b = 1) := by cases b <;> decide
theorem bok1 : ¬ ¬ ((1 : Int32) = 0 ∨ (1 : Int32) = 1) := by decide
theorem bok0 : ¬ ¬ ((0 : Int32) = 0 ∨ (0 : Int32) = 1) := by decide
theorem dg100 {h x y : Nat} (hh : h < 10) (hx : x < 10) (hy : y < 10) : nI (100 * h + 10 * x + y) / (100 : Int32) = nI h := by
  rw [show (100 : Int32) = nI 100 from rfl, pk_div (by omega) (by decide) (by decide)]
  congr 1
  omega
theorem dg10 {h x y : Nat} (hh : h < 10) (hx : x < 10) (hy : y < 10) : nI (100 * h + 10 * x + y) / (10 : Int32) - nI (100 * h + 10 * x + y) / (10 : Int32) / (10 : Int32) * (10 : Int32) = nI x := by
  rw [show (10 : Int32) = nI 10 from rfl, pk_div (by omega) (by decide) (by decide), pk_rem (by omega) (by decide) (by decide)]
  congr 1
  omega
theorem dg1 {h x y : Nat} (hh : h < 10) (hx : x < 10) (hy : y < 10) : nI (100 * h + 10 * x + y) - nI (100 * h + 10 * x + y) / (10 : Int32) * (10 : Int32) = nI y := by
  rw [show (10 : Int32) = nI 10 from rfl, pk_rem (by omega) (by decide) (by decide)]
  congr 1
  omega
theorem dg2 {h x y : Nat} (hh : h < 10) (hx : x < 10) (hy : y < 10) : nI (100 * h + 10 * x + y) - nI (100 * h + 10 * x + y) / (100 : Int32) * (100 : Int32) = nI (10 * x + y) := by
  rw [show (100 : Int32) = nI 100 from rfl, pk_rem (by omega) (by decide) (by decide)]
  congr 1
  omega
theorem inR_iff {k lo hi : Nat} (hk : k < 1000) (hhi : hi < 1000) (h : inR (nI k) lo hi = true) (hlo : lo < 1000) : lo ≤ k ∧ k ≤ hi := by
  obtain ⟨j, j1, j2, e⟩ := inR_at (by omega) (by omega) h
  have : k = j := nI_inj hk (by omega) e
  omega
theorem inQ_iff {k hi : Nat} (hk : k < 1000) (hhi : hi < 1000) (h : inQ (nI k) hi = true) : k < hi := by
  obtain ⟨j, j1, e⟩ := inQ_at (by omega) h
  have : k = j := nI_inj hk (by omega) e
  omega
theorem L_holds {R : Nat} {N : Nat → Nat} {al : Nat → Nat → Bool} {vw : Nat → Nat → Nat} {se jo vi mn am vm : Nat → Int32} (H : HallP R N al vw se jo vi) (HM : HallM R N al vw mn am vm) {pr fr sz lm pc pd qu w : Nat → Int32} {ask wai fee tak : Int32} (B : BK R N pr fr sz lm pc pd qu ask wai fee tak w) {h x y : Nat} (hh : h < 10) (hx : x < 10) (hy : y < 10) (f1 f2 f3 f4 h1 h2 h3 : Int32) :
    ∃ (b : Bool) (ask' wai' tak' g1 g2 g3 g4 k1 k2 k3 : Int32) (pr' fr' sz' lm' pc' pd' qu' w' : Nat → Int32),
      fX8_holds (nI R) se jo vi ask wai fee tak pr fr sz lm pc pd qu f1 f2 f3 f4 (nI (100 * h + 10 * x + y)) = some (bI b, ask', wai', tak', pr', fr', sz', lm', pc', pd', qu', g1, g2, g3, g4) ∧ fX9_does (nI R) h1 h2 h3 mn vm am w (nI h) (nI x) (nI y) = some (bI b, k1, k2, k3, w') ∧ BK R N pr' fr' sz' lm' pc' pd' qu' ask' wai' fee tak' w' := by
  obtain ⟨hR, hN, hse⟩ := HallP_N H
  obtain ⟨-, -, hrM⟩ := id HM
  obtain ⟨-, -, hrP⟩ := id H
  have B0 := B
  obtain ⟨a, q, B⟩ := B
  obtain ⟨⟨ha, hask, hw6⟩, -, -, -, hpr, ⟨hfr, -⟩, ⟨hfee, htak⟩, ⟨-, hq5, hwai, -⟩, -⟩ := id B
  rw [Nat.add_zero] at hwai
  subst hask
  have e10 : (10 : Int32) * nI x + nI y = nI (10 * x + y) := by rw [show (10 : Int32) = nI 10 from rfl, pk_mul, nI_add]
  have ne : ∀ k, k < 10 → ¬ h = k → ¬ nI h = nI k := fun k hk g e => g (nI_inj (by omega) (by omega) e)
  unfold fX8_holds fX9_does
  rw [dg2 hh hx hy, dg10 hh hx hy, dg1 hh hx hy, dg100 hh hx hy, e10]
  by_cases c1 : h = 1
  · subst c1
    rw [if_pos (show nI 1 = (1 : Int32) from rfl), if_pos (show nI 1 = (1 : Int32) from rfl), m_isAskR, Option.bind_some]
    unfold fX8_asksAndSits
    rw [c_isSizeR, Option.bind_some, c_isPriceR, Option.bind_some]
    cases hs : inR (nI x) 1 6 with
    | false =>
      rw [ib_f, Option.bind_some, if_neg bok0, Bool.false_and, ib_f]
      exact ⟨false, _, _, _, _, _, _, _, _, _, _, _, _, _, _, _, _, _, w, rfl, rfl, B0⟩
    | true =>
      have n16 := inR_iff (by omega) (by decide) hs (by decide)
      rw [ib_t, Bool.true_and]
      cases hv : inR (nI y) 1 9 with
      | false =>
        rw [ib_f, Option.bind_some, if_neg bok0, ib_f]
        exact ⟨false, _, _, _, _, _, _, _, _, _, _, _, _, _, _, _, _, _, w, rfl, rfl, B0⟩
      | true =>
        have l19 := inR_iff (by omega) (by decide) hv (by decide)
        have hok := bst_ok H B n16.2 y
        subst hwai
        rw [ib_t, ib_t, L_look H B n16.1 n16.2 l19.2, Option.bind_some, c_isFullFor hok ha (by omega), Option.bind_some, m_mayAsk HM B n16.1 n16.2 l19.2 hok.1, Option.bind_some]
        unfold repC
        dsimp only
        by_cases c0 : (bst R N al vw w x y).1 = 0
        · rw [if_pos ((plI_9 hok).mpr c0), Option.bind_some, if_neg bok0, if_pos ((eq0 (by have := hok.1; omega)).mpr c0)]
          refine ⟨false, _, _, _, _, _, _, _, plI (bst R N al vw w x y), fvI (bst R N al vw w x y), nI (bst R N al vw w x y).1, _, _, _, _, _, _, _, w, rfl, ?_, B0⟩
          cases fullS a q (bst R N al vw w x y) <;> rfl
        · rw [if_neg (fun e => c0 ((plI_9 hok).mp e)), if_neg (fun e => c0 ((eq0 (by have := hok.1; omega)).mp e))]
          cases hf : fullS a q (bst R N al vw w x y) with
          | true =>
            rw [ib_t, Option.bind_some, if_neg bok0, Bool.not_true, ib_f]
            exact ⟨false, _, _, _, _, _, _, _, _, _, _, _, _, _, _, _, _, _, w, rfl, rfl, B0⟩
          | false =>
            obtain ⟨wai', tak', fr', pc', pd', qu', w', q', a1, a2, B2⟩ := L_admit H HM B n16.1 n16.2 l19.1 l19.2 hf (plI (bst R N al vw w x y)) (fvI (bst R N al vw w x y)) (nI (bst R N al vw w x y).1)
            rw [ib_f, a1, Option.bind_some, Option.bind_some, if_neg bok1, Bool.not_false, ib_t, a2, Option.bind_some]
            exact ⟨true, _, wai', tak', _, _, _, _, _, _, _, _, fr', _, _, pc', pd', qu', w', rfl, rfl, a + 1, q', B2⟩
  rw [if_neg (show ¬ nI h = (1 : Int32) from ne 1 (by decide) c1), if_neg (show ¬ nI h = (1 : Int32) from ne 1 (by decide) c1)]
  by_cases c2 : h = 2
  · subst c2
    rw [if_pos (show nI 2 = (2 : Int32) from rfl), if_pos (show nI 2 = (2 : Int32) from rfl), m_sitsQ ha hw6 (by omega), Option.bind_some]
    unfold fX8_givesBack
    rw [c_isSeatedQ hR hN B (by omega), Option.bind_some]
    by_cases hst : (1 ≤ 10 * x + y ∧ 10 * x + y ≤ a) ∧ w (45 + 6 * (10 * x + y)) = nI 1
    · obtain ⟨bk, tak1, g1, g2, g3, g4, wai', tak', k1, k2, k3, fr1, pc1, pd1, fr', pc', pd', qu', w', q', r1, r2, r3, B2⟩ := L_return H HM B hst.1.1 hst.1.2 hst.2 f1 f2 f3 f4 h1 h2 h3
      rw [decide_eq_true hst, ib_t, ib_t, r1, Option.bind_some, r2, Option.bind_some, Option.bind_some, if_neg bok1, r3, Option.bind_some]
      exact ⟨true, _, wai', tak', _, _, _, _, _, _, _, _, fr', _, _, pc', pd', qu', w', rfl, rfl, a, q', B2⟩
    · rw [decide_eq_false hst, ib_f, ib_f, Option.bind_some, if_neg bok0]
      exact ⟨false, _, _, _, _, _, _, _, _, _, _, _, _, _, _, _, _, _, w, rfl, rfl, B0⟩
  rw [if_neg (show ¬ nI h = (2 : Int32) from ne 2 (by decide) c2), if_neg (show ¬ nI h = (2 : Int32) from ne 2 (by decide) c2)]
  by_cases c3 : h = 3
  · subst c3
    rw [if_pos (show nI 3 = (3 : Int32) from rfl), if_pos (show nI 3 = (3 : Int32) from rfl), m_noRow (by omega), Option.bind_some]
    unfold fX8_becomesPrice
    rw [c_hasRowQ, Option.bind_some, c_isPriceR, Option.bind_some]
    cases hr : inQ (nI x) R with
    | false =>
      rw [ib_f, Option.bind_some, if_neg bok0, Bool.not_false, ib_t]
      exact ⟨false, _, _, _, _, _, _, _, _, _, _, _, _, _, _, _, _, _, w, rfl, rfl, B0⟩
    | true =>
      have hxR := inQ_iff (by omega) (by omega) hr
      rw [ib_t, Bool.not_true, ib_f]
      by_cases y0 : y = 0
      · subst y0
        rw [show inR (nI 0) 1 9 = false from rfl, ib_f, Option.bind_some, if_neg bok0, if_pos (show nI 0 = (0 : Int32) from rfl)]
        exact ⟨false, _, _, _, _, _, _, _, _, _, _, _, _, _, _, _, _, _, w, rfl, rfl, B0⟩
      · have B1 : BKg R N a 0 q q 0 (upd pr x (nI y)) fr sz lm pc pd qu (nI a) wai fee tak (upd w x (nI y)) := BK_low hR hN B (fun j hj => upd_ne (by omega)) (fun r' hr' => by
          by_cases er : r' = x
          · subst er
            rw [upd_at, upd_at]
            exact ⟨rfl, y, by omega, by omega, rfl⟩
          · rw [upd_ne er, upd_ne er]
            exact hpr r' hr') (by rw [upd_ne (by omega)]; exact hfee) (by rw [upd_ne (by omega)]; exact htak)
        obtain ⟨g1, g2, g3, g4, wai', tak', k1, k2, k3, fr', pc', pd', qu', w', q', l1, l2, B2⟩ := L_letIn H HM B1 f1 f2 f3 f4 h1 h2 h3
        unfold fX0_setPrice
        rw [inR_nI (by omega) (by omega) (by decide), ib_t, c_isRow1 (by omega), Option.bind_some, i1_t, if_neg (nI_in (by omega) (by decide)), nI_clamp (by omega), Option.bind_some, l1, Option.bind_some, Option.bind_some, if_neg bok1, if_neg (show ¬ nI y = (0 : Int32) from fun e => y0 ((eq0 (by omega)).mp e)), lp0x, Nat.zero_add, if_neg (nI_in (by omega) (by decide)), nI_clamp (by omega), l2, Option.bind_some]
        exact ⟨true, _, wai', tak', _, _, _, _, _, _, _, _, fr', _, _, pc', pd', qu', w', rfl, rfl, a, q', B2⟩
  rw [if_neg (show ¬ nI h = (3 : Int32) from ne 3 (by decide) c3), if_neg (show ¬ nI h = (3 : Int32) from ne 3 (by decide) c3)]
  by_cases c4 : h = 4
  · subst c4
    rw [if_pos (show nI 4 = (4 : Int32) from rfl), if_pos (show nI 4 = (4 : Int32) from rfl), m_noSeatS hR hN (fun r hr => (hrM r hr).2.1), Option.bind_some, c_hasSeatS hR hse, Option.bind_some]
    cases hr : inS R N (nI x) (nI y) with
    | false =>
      rw [ib_f, Bool.not_false, ib_t]
      exact ⟨false, _, _, _, _, _, _, _, _, _, _, _, _, _, _, _, _, _, w, rfl, rfl, B0⟩
    | true =>
      obtain ⟨r, s, hrR, hsN, er, es⟩ := inS_at hR hN hr
      have hN9 := hN r hrR
      have er2 : x = r := nI_inj (by omega) (by omega) er
      have es2 : y = s := nI_inj (by omega) (by omega) es
      subst er2
      subst es2
      obtain ⟨⟨N1, N9⟩, hmn, ham, hvm⟩ := hrM x hrR
      obtain ⟨-, -, hjo, hvi⟩ := hrP x hrR
      rw [ib_t, Bool.not_true, ib_f, c_freeIn (by omega), Option.bind_some, hfr x hrR, c_loneOf hR hrR hjo (fun k hk => by unfold FA; rw [decide_eq_false (by omega)]; rfl), Option.bind_some, m_isLone (by omega) hmn N9 hsN ham, Option.bind_some]
      have hlo : loB (FA N w x) (JA N al x) y = loM (N x) (al x) (frW w x) y := lo_same hsN
      have hone := Mk_one (loB (FA N w x) (JA N al x)) (s := y) (by omega)
      rw [hlo] at hone
      cases hb : loM (N x) (al x) (frW w x) y with
      | false =>
        rw [if_pos (hone.mpr hb), ib_f]
        exact ⟨false, _, _, _, _, _, _, _, _, _, _, _, _, _, _, _, _, _, w, rfl, rfl, B0⟩
      | true =>
        rw [if_neg (fun e => by rw [hone.mp e] at hb; cases hb), ib_t]
        exact ⟨true, _, _, _, _, _, _, _, _, _, _, _, _, _, _, _, _, _, w, rfl, rfl, B0⟩
  rw [if_neg (show ¬ nI h = (4 : Int32) from ne 4 (by decide) c4), if_neg (show ¬ nI h = (4 : Int32) from ne 4 (by decide) c4)]
  by_cases c5 : h = 5
  · subst c5
    rw [if_pos (show nI 5 = (5 : Int32) from rfl), if_pos (show nI 5 = (5 : Int32) from rfl), c_freeSeats hR hN B, Option.bind_some, m_allFree HM, Option.bind_some]
    by_cases g : nI (fb_sm (frS N w) R) = nI (10 * x + y)
    · rw [if_pos g, if_pos g]
      exact ⟨true, _, _, _, _, _, _, _, _, _, _, _, _, _, _, _, _, _, w, rfl, rfl, B0⟩
    · rw [if_neg g, if_neg g]
      exact ⟨false, _, _, _, _, _, _, _, _, _, _, _, _, _, _, _, _, _, w, rfl, rfl, B0⟩
  rw [if_neg (show ¬ nI h = (5 : Int32) from ne 5 (by decide) c5), if_neg (show ¬ nI h = (5 : Int32) from ne 5 (by decide) c5)]
  by_cases c6' : h = 6
  · subst c6'
    rw [if_pos (show nI 6 = (6 : Int32) from rfl), if_pos (show nI 6 = (6 : Int32) from rfl), c_isSeatedQ hR hN B (by omega), Option.bind_some, m_sitsQ ha hw6 (by omega), Option.bind_some, if_neg (bok _), if_neg (bok _)]
    exact ⟨_, _, _, _, _, _, _, _, _, _, _, _, _, _, _, _, _, _, w, rfl, rfl, B0⟩
  rw [if_neg (show ¬ nI h = (6 : Int32) from ne 6 (by decide) c6'), if_neg (show ¬ nI h = (6 : Int32) from ne 6 (by decide) c6')]
  by_cases c7' : h = 7
  · subst c7'
    rw [if_pos (show nI 7 = (7 : Int32) from rfl), if_pos (show nI 7 = (7 : Int32) from rfl), m_isAskR, Option.bind_some, c_isSizeR, Option.bind_some, c_isPriceR, Option.bind_some]
    cases hs : inR (nI x) 1 6 with
    | false =>
      rw [ib_f, Bool.false_and, ib_f]
      exact ⟨false, _, _, _, _, _, _, _, _, _, _, _, _, _, _, _, _, _, w, rfl, rfl, B0⟩
    | true =>
      have n16 := inR_iff (by omega) (by decide) hs (by decide)
      rw [ib_t, Bool.true_and]
      cases hv : inR (nI y) 1 9 with
      | false =>
        rw [ib_f, ib_f]
        exact ⟨false, _, _, _, _, _, _, _, _, _, _, _, _, _, _, _, _, _, w, rfl, rfl, B0⟩
      | true =>
        have l19 := inR_iff (by omega) (by decide) hv (by decide)
        have hok := bst_ok H B n16.2 y
        rw [ib_t, ib_t, L_look H B n16.1 n16.2 l19.2, Option.bind_some, L_find HM B n16.1 n16.2 l19.2, Option.bind_some]
        dsimp only
        by_cases c0 : (bst R N al vw w x y).1 = 0
        · rw [if_pos ((plI_9 hok).mpr c0), if_pos ((le0 (by have := hok.1; omega)).mpr c0)]
          exact ⟨false, _, _, _, _, _, _, _, _, _, _, _, _, _, _, _, _, _, w, rfl, rfl, B0⟩
        · rw [if_neg (fun e => c0 ((plI_9 hok).mp e)), if_neg (fun e => c0 ((le0 (by have := hok.1; omega)).mp e))]
          exact ⟨true, _, _, _, _, _, _, _, _, _, _, _, _, _, _, _, _, _, w, rfl, rfl, B0⟩
  rw [if_neg (show ¬ nI h = (7 : Int32) from ne 7 (by decide) c7'), if_neg (show ¬ nI h = (7 : Int32) from ne 7 (by decide) c7')]
  exact ⟨false, _, _, _, _, _, _, _, _, _, _, _, _, _, _, _, _, _, w, rfl, rfl, B0⟩
