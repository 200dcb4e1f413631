/-! shift: another place for a seated party -/
theorem bestS_at {R : Nat} {N : Nat → Nat} {al : Nat → Nat → Bool} {vw : Nat → Nat → Nat} {w : Nat → Int32} {pp : Nat → Nat} {n lim o : Nat} {d : Int} (h : (bestS R N (JA N al) (FA N w) vw pp n lim o d).1 ≠ 0) : ∃ r s, r < R ∧ s + n ≤ N r ∧ plI (bestS R N (JA N al) (FA N w) vw pp n lim o d) = nI (10 * r + s) ∧ (∀ k, k < n → w (13 + 9 * r + (s + k)) = 0) := by
  have h2 := allS_at (P := fun A => ∃ r s, r < R ∧ s + n ≤ N r ∧ A.2.1 = 10 * r + s ∧ (∀ k, k < n → w (13 + 9 * r + (s + k)) = 0)) (op := opS o lim pp) (ok := okS N (JA N al) (FA N w) n d) (qu := quS vw n) (N := N) (p := pp) R (fun B r s hr _ hs => by
    unfold okS okR at hs
    have c0 : s + n ≤ N r := by
      by_cases c : s + n ≤ N r
      · exact c
      · rw [decide_eq_false c] at hs; cases hs
    rw [decide_eq_true c0, Bool.true_and] at hs
    have c1 : ∀ k, k < n → FA N w r (s + k) = true := by
      by_cases c : ∀ k, k < n → FA N w r (s + k) = true
      · exact c
      · rw [decide_eq_false c] at hs; cases hs
    refine ⟨r, s, hr, c0, rfl, fun k hk => ?_⟩
    have h3 := c1 k hk
    unfold FA at h3
    rw [decide_eq_true (by omega), Bool.true_and] at h3
    exact of_decide_eq_true h3) (fun B hB => hB) h
  obtain ⟨r, s, g1, g2, g3, g4⟩ := h2
  refine ⟨r, s, g1, g2, ?_, g4⟩
  unfold plI
  rw [if_neg h]
  show nI (bestS R N (JA N al) (FA N w) vw pp n lim o d).2.1 = _
  rw [← g3]
  rfl
theorem c_move {a p r s n r2 s2 : Nat} {fr sz pc : Nat → Int32} (ha : a ≤ 30) (h1 : 1 ≤ p) (h2 : p ≤ a) (hr : r < 4) (n6 : n ≤ 6) (hs : s + n ≤ 9) (hs9 : s < 9) (hsz : sz p = nI n) (hpc : pc p = nI (10 * r + s)) (hr2 : r2 < 4) (hs2 : s2 + n ≤ 9) : fX0_move (nI a) fr sz pc (nI p) (nI (10 * r2 + s2)) = some (upd (upd fr r (fr r ||| Mk (spn s n))) r2 ((upd fr r (fr r ||| Mk (spn s n))) r2 &&& (Mk (spn s2 n) ^^^ (-1))), upd pc p (nI (10 * r2 + s2))) := by
  unfold fX0_move
  rw [c_isSeated ha h1 h2, decide_eq_true (by rw [hpc]; exact m9 (by omega)), Option.bind_some, ib_t, if_neg (nI_in (by omega) (by decide)), if_neg (nI_in (by omega) (by decide)), nI_clamp (by omega), hpc, hsz, c_clear hr n6 hs, Option.bind_some, if_neg (show ¬ (nI p < 0 ∨ 31 ≤ p) from (grd2 (by omega) (by decide)).mp), if_neg (show ¬ (nI p < 0 ∨ 31 ≤ p) from (grd2 (by omega) (by decide)).mp), c_take hr2 n6 hs2, Option.bind_some]
theorem O_shift {R : Nat} {N : Nat → Nat} {al : Nat → Nat → Bool} {vw : Nat → Nat → Nat} {se jo vi mn am vm : Nat → Int32} (H : HallP R N al vw se jo vi) (HM : HallM R N al vw mn am vm) {pr fr sz lm pc pd qu w book tr cp cf cs cl cc cd cq : Nat → Int32} {ask wai fee tak ca cw ce ct : Int32} {x u : Nat} {pA : Nat → Nat → Nat → Int32} {pV : Nat → Nat → Int32} (B : BK R N pr fr sz lm pc pd qu ask wai fee tak w) (P : PastR R N x u pA pV book) (f1 f2 f3 f4 th h1 h2 h3 x1 : Int32) :
    ∃ (ans wai' tak' g1 g2 g3 g4 k1 k2 k3 ca' cw' ce' ct' : Int32) (fr' pc' pd' qu' cp' cf' cs' cl' cc' cd' cq' : Nat → Int32) (x' u' : Nat) (pA' : Nat → Nat → Nat → Int32) (pV' : Nat → Nat → Int32) (w' tr' book' : Nat → Int32),
      fX8_shift (nI R) se jo vi ask wai fee tak pr fr sz lm pc pd qu ca cw ce ct cp cf cs cl cc cd cq (nI x) (nI u) f1 f2 f3 f4 pA pV x1 = some (ans, wai', tak', fr', pc', pd', qu', ca', cw', ce', ct', cp', cf', cs', cl', cc', cd', cq', nI x', nI u', g1, g2, g3, g4, pA', pV') ∧ fX9_shift th (nI R) (nI u) h1 h2 h3 mn vm am w tr book x1 = some (ans, 0, nI u', k1, k2, k3, w', tr', book') ∧ BK R N pr fr' sz lm pc' pd' qu' ask wai' fee tak' w' ∧ PastR R N x' u' pA' pV' book' ∧ ∀ i, 14 ≤ i → pA' i = pA i ∧ pV' i = pV i := by
  obtain ⟨hR, hN, hse⟩ := HallP_N H
  obtain ⟨x', u', pA', pV', book', e1, e2, P', hp⟩ := L_note hR hN B P
  have B0 := B
  have BC := L_copy (o0 := cp) (o1 := cf) (o2 := cs) (o3 := cl) (o4 := cc) (o5 := cd) (o6 := cq) hR hN B (w' := fa_fill w tr 229) (fun k hk => fa_fill_in hk)
  obtain ⟨a, q, B⟩ := B
  obtain ⟨⟨ha, hask, hw6⟩, hPN, -, -, -, ⟨hfr, -⟩, -⟩ := id B
  subst hask
  unfold fX8_shift fX9_shift
  rw [c_knowsR, Option.bind_some, m_noParty hw6, Option.bind_some]
  cases hs : inR x1 1 a with
  | false =>
    rw [ib_f, Bool.not_false, ib_t]
    exact ⟨_, _, _, _, _, _, _, _, _, _, _, _, _, _, _, _, _, _, _, _, _, _, _, _, _, x, u, pA, pV, w, tr, book, rfl, rfl, B0, P, fun _ _ => ⟨rfl, rfl⟩⟩
  | true =>
    obtain ⟨p, p1, pa, rfl⟩ := inR_at (by omega) (by decide) hs
    rw [ib_t, Bool.not_true, ib_f, c_isSeated ha p1 pa, Option.bind_some, m_at p1, Option.bind_some, pl0, pl1, pl2, pl3, pl4, if_neg (nI_in (by omega) (by decide)), nI_clamp (n := 43 + 6 * p + 2) (by omega), show 43 + 6 * p + 2 = 45 + 6 * p by omega]
    have hiff := seated_iff hR hN B p1 pa (by omega)
    by_cases hst : w (45 + 6 * p) = nI 1
    · obtain ⟨n, r, s, n1, n6, t1, t2, t3, t4, t5, t6, t7, t8, t9⟩ := seated_at hN B p1 pa (by omega) hst
      have hN9 := hN r t3
      obtain ⟨-, hlm, -, ⟨l, l1, l9, hwl⟩⟩ := hPN p p1 pa
      obtain ⟨-, -, hrM⟩ := id HM
      obtain ⟨-, -, hrP⟩ := id H
      -- the copy
      obtain ⟨a', q', BC⟩ := BC
      obtain ⟨⟨ha', hask', hw6'⟩, -⟩ := id BC
      have haa : a' = a := nI_inj (by omega) (by omega) hask'.symm
      subst haa
      have fl : ∀ j, j < 229 → fa_fill w tr 229 j = w j := fun j hj => fa_fill_in hj
      have BU := L_unseat hR hN BC p1 pa (by rw [fl _ (by omega)]; exact hst) (by rw [fl _ (by omega)]; exact t1) n6 t3 t4 (by rw [fl _ (by omega)]; exact t5) (by rw [fl _ (by omega)]; exact t6) (fun k hk => by rw [fl _ (by omega)]; exact t9 k hk)
      have HCU := HC H BU
      obtain ⟨-, -, -, -, hprU, ⟨hfrU, -⟩, -⟩ := id BU
      have hb1 := lone_bound (a := al) (w := w) hN
      have hb2 := lone_bound (a := al) (w := layF (fa_fill w tr 229) r s n 0) hN
      have hd := subI_toInt (a := fb_sm (loneW N al w) R) (b := fb_sm (loneW N al (layF (fa_fill w tr 229) r s n 0)) R) (by omega) (by omega)
      have hlook := c_look HCU (n := n) (lim := l) (o := 15) n1 n6 (by omega) (by decide) hd (by omega) (by omega) f1 f2 f3 f4
      have hfind := m_findPlace HM (w := layF (fa_fill w tr 229) r s n 0) (n := n) (lim := l) (o := 15) (lone := fb_sm (loneW N al w) R) (p := pv (layF (fa_fill w tr 229) r s n 0)) n1 n6 (by decide) (by omega) (by omega) (fun r hr => ⟨(pv_of (hprU r hr).2).1, by have := (pv_of (hprU r hr).2).2.2; omega⟩) h1 h2 h3
      rw [best_same hN n1] at hfind
      have hok : accOk (bestS R N (JA N al) (FA N (layF (fa_fill w tr 229) r s n 0)) vw (pv (layF (fa_fill w tr 229) r s n 0)) n l 15 ((fb_sm (loneW N al w) R : Int) - (fb_sm (loneW N al (layF (fa_fill w tr 229) r s n 0)) R : Int))) 36 := (allS_ok hR (fun k hk => hN k hk) (quS_lt H.2.1 n6) (fun k hk => by have := (pv_of (hprU k hk).2).2.2; omega)).up (by omega)
      have hat := bestS_at (al := al) (vw := vw) (R := R) (N := N) (w := layF (fa_fill w tr 229) r s n 0) (pp := pv (layF (fa_fill w tr 229) r s n 0)) (n := n) (lim := l) (o := 15) (d := (fb_sm (loneW N al w) R : Int) - (fb_sm (loneW N al (layF (fa_fill w tr 229) r s n 0)) R : Int))
      generalize bestS R N (JA N al) (FA N (layF (fa_fill w tr 229) r s n 0)) vw (pv (layF (fa_fill w tr 229) r s n 0)) n l 15 ((fb_sm (loneW N al w) R : Int) - (fb_sm (loneW N al (layF (fa_fill w tr 229) r s n 0)) R : Int)) = A at hlook hfind hok hat
      have hinst : fX8_placeInsteadFor (nI R) se jo vi (nI a') wai fee tak pr fr sz lm pc pd qu ca cw ce ct cp cf cs cl cc cd cq f1 f2 f3 f4 (nI p) = some (plI A, nI a', wai, fee, tak, va_cpy pr cp 0 0 4, upd (va_cpy fr cf 0 0 4) r ((va_cpy fr cf 0 0 4) r ||| Mk (spn s n)), va_cpy sz cs 0 0 31, va_cpy lm cl 0 0 31, va_cpy pc cc 0 0 31, va_cpy pd cd 0 0 31, va_cpy qu cq 0 0 5, nI A.1, plI A, nI A.2.2.1, nI A.2.2.2) := by
        unfold fX8_placeInsteadFor fX0_copyFrom
        rw [c_sizeOf ha p1 pa, Option.bind_some, Option.bind_some, c_placeOf ha p1 pa, Option.bind_some, t2, t7]
        dsimp only
        rw [show ((0 : Int32)).toNatClampNeg = 0 from rfl, show ((4 : Int32)).toNatClampNeg = 4 from rfl, show ((31 : Int32)).toNatClampNeg = 31 from rfl, show ((5 : Int32)).toNatClampNeg = 5 from rfl, c_clear (by omega) n6 (by omega), Option.bind_some, c_loneSeats H hfr, Option.bind_some, c_loneSeats H hfrU, Option.bind_some, c_limitOf ha p1 pa, Option.bind_some, hlm, hwl, show (15 : Int32) = nI 15 from rfl, hlook, Option.bind_some]
        rfl
      have hq : ∀ k, k < n → vi (9 * r + s + k) = nI (vw r (s + k)) := fun k hk => by
        rw [Nat.add_assoc]
        exact (hrP r t3).2.2.2 (s + k) (by omega)
      have hqm : ∀ k, k < n → vm (9 * r + s + k) = nI (vw r (s + k)) := fun k hk => by
        rw [Nat.add_assoc]
        exact (hrM r t3).2.2.2 (s + k) (by omega)
      have hown : fb_sm (fun k => vw r (s + k)) n < 100 := quS_lt H.2.1 n6 r s
      have hl1 : layF (fa_fill w tr 229) r s n 0 (44 + 6 * p) = nI l := by
        rw [layF_out (by omega), fl _ (by omega)]
        exact hwl
      have g0 : ∀ k, k ≤ 5 → ¬ (nI (43 + 6 * p + k) < 0 ∨ 229 ≤ (nI (43 + 6 * p + k)).toNatClampNeg) := fun k hk => nI_in (by omega) (by decide)
      rw [decide_eq_true (hiff.mpr hst), ib_t, if_pos (show w (45 + 6 * p) = 1 from hst), hinst, Option.bind_some]
      unfold fX1_quality
      rw [Option.bind_some, c_placeOf ha p1 pa, Option.bind_some, c_sizeOf ha p1 pa, Option.bind_some, t2, t7, c_qualityOf (by omega) (by omega) n1 hq, Option.bind_some]
      rw [if_neg (g0 0 (by omega)), if_neg (g0 3 (by omega)), if_neg (g0 4 (by omega)), nI_clamp (n := 43 + 6 * p + 3) (by omega), nI_clamp (n := 43 + 6 * p + 4) (by omega), nI_clamp (n := 43 + 6 * p + 0) (by omega), nI_clamp (n := 43 + 6 * p + 1) (by omega), show 43 + 6 * p + 3 = 46 + 6 * p by omega, show 43 + 6 * p + 4 = 47 + 6 * p by omega, show 43 + 6 * p + 0 = 43 + 6 * p by omega, show 43 + 6 * p + 1 = 44 + 6 * p by omega, t5, t6, t1, m_viewsOf (by omega) (by omega) hqm, Option.bind_some, m_copy, Option.bind_some, if_neg (show ¬ (nI (46 + 6 * p) < 0 ∨ 229 ≤ 46 + 6 * p) from (grd2 (by omega) (by decide)).mp), if_neg (show ¬ (nI (47 + 6 * p) < 0 ∨ 229 ≤ 47 + 6 * p) from (grd2 (by omega) (by decide)).mp), fl _ (by omega), fl _ (by omega), t5, t6, m_lay (by omega) (by omega), Option.bind_some, if_neg (show ¬ (nI (44 + 6 * p) < 0 ∨ 229 ≤ 44 + 6 * p) from (grd2 (by omega) (by decide)).mp), m_allLone HM, Option.bind_some, hl1, show (15 : Int32) = nI 15 from rfl, hfind, Option.bind_some]
      dsimp only
      by_cases c0 : A.1 = 0
      · rw [if_pos ((plI_9 hok).mpr c0), if_pos ((eq0 (by have := hok.1; omega)).mpr c0)]
        exact ⟨_, _, _, _, _, _, _, _, _, _, _, _, _, _, _, _, _, _, _, _, _, _, _, _, _, x, u, pA, pV, w, _, book, rfl, rfl, B0, P, fun _ _ => ⟨rfl, rfl⟩⟩
      · have hdq := subI_toInt (a := A.2.2.1) (b := fb_sm (fun k => vw r (s + k)) n) (by have := hok.2.2.1; omega) (by omega)
        have hfv : fvI A = nI A.2.2.1 := if_neg c0
        rw [if_neg (fun e => c0 ((plI_9 hok).mp e)), if_neg (fun e => c0 ((eq0 (by have := hok.1; omega)).mp e)), hfv]
        by_cases c1 : fb_sm (fun k => vw r (s + k)) n < A.2.2.1
        · obtain ⟨r2, s2, hr2, hs2, epl, hfree⟩ := hat c0
          have hN2 := hN r2 hr2
          have BU2 := L_unseat hR hN B p1 pa hst t1 n6 t3 t4 t5 t6 t9
          have ag : ∀ j, j < 229 → layF w r s n 0 j = layF (fa_fill w tr 229) r s n 0 j := fun j hj => by
            unfold layF
            rw [fl j hj]
          have BS := L_seat hR hN BU2 p1 pa hr2 (by rw [layF_out (by omega)]; exact t1) hs2 (fun k hk => by rw [ag _ (by omega)]; exact hfree k hk) (by rw [layF_out (by omega)]; exact t8)
          obtain ⟨g1, g2, g3, g4, wai', tak', k1, k2, k3, fr', pc', pd', qu', w', q', l1', l2', B2⟩ := L_letIn H HM BS (nI A.1) (plI A) (nI A.2.2.1) (nI A.2.2.2) (plI A) (nI A.2.2.1) (nI A.1)
          rw [if_pos ((fa_lt _ _).mpr (by rw [hdq]; have e0 : (0 : Int32).toInt = 0 := rfl; omega)), e1, Option.bind_some, if_pos (nI_lt' c1 (by have := hok.2.2.1; omega)), e2, Option.bind_some, if_neg (show ¬ (nI (46 + 6 * p) < 0 ∨ 229 ≤ 46 + 6 * p) from (grd2 (by omega) (by decide)).mp), if_neg (show ¬ (nI (47 + 6 * p) < 0 ∨ 229 ≤ 47 + 6 * p) from (grd2 (by omega) (by decide)).mp), m_lay (w := w) (r := r) (s := s) (n := n) (v := 0) (by omega) (by omega), Option.bind_some, epl, c_move ha p1 pa (by omega) n6 (by omega) (by omega) t2 t7 (by omega) (by omega), Option.bind_some, m_seatOn (n := n) p1 (by omega) (by omega) (by omega) (by omega) (by rw [layF_out (by omega)]; exact t1), Option.bind_some]
          rw [epl] at l1' l2'
          rw [l1', Option.bind_some, l2', Option.bind_some]
          exact ⟨_, wai', tak', _, _, _, _, _, _, _, _, _, _, _, fr', pc', pd', qu', _, _, _, _, _, _, _, x', u', pA', pV', w', _, book', rfl, rfl, ⟨a', q', B2⟩, P', hp⟩
        · rw [if_neg (fun e => by have := (fa_lt _ _).mp e; rw [hdq] at this; have e0 : (0 : Int32).toInt = 0 := rfl; omega), if_neg (show ¬ nI (fb_sm (fun k => vw r (s + k)) n) < nI A.2.2.1 from nI_nlt (by omega) (by omega))]
          exact ⟨_, _, _, _, _, _, _, _, _, _, _, _, _, _, _, _, _, _, _, _, _, _, _, _, _, x, u, pA, pV, w, _, book, rfl, rfl, B0, P, fun _ _ => ⟨rfl, rfl⟩⟩
    · rw [decide_eq_false (fun h => hst (hiff.mp h)), ib_f, if_neg (show ¬ w (45 + 6 * p) = 1 from hst)]
      exact ⟨_, _, _, _, _, _, _, _, _, _, _, _, _, _, _, _, _, _, _, _, _, _, _, _, _, x, u, pA, pV, w, tr, book, rfl, rfl, B0, P, fun _ _ => ⟨rfl, rfl⟩⟩
