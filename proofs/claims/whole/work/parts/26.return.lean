def goneW (w : Nat → Int32) (p : Nat) (b : Int32) : Nat → Int32 := upd (upd (upd w (45 + 6 * p) 0) (48 + 6 * p) 0) 5 (w 5 - b)
theorem goneW_out {w : Nat → Int32} {p j : Nat} {b : Int32} (h5 : j ≠ 5) (h1 : j ≠ 45 + 6 * p) (h2 : j ≠ 48 + 6 * p) : goneW w p b j = w j := by
  unfold goneW
  rw [upd_ne h5, upd_ne h2, upd_ne h1]
/-- a party in between is gone, and was paid back -/
theorem L_gone {R : Nat} {N : Nat → Nat} {a p q : Nat} {pr fr sz lm pc pd qu : Nat → Int32} {ask wai fee tak : Int32} {w : Nat → Int32} (hR : R ≤ 4) (hN : ∀ r, r < R → N r ≤ 9) (B : BKg R N a p q q 0 pr fr sz lm pc pd qu ask wai fee tak w) (hp1 : 1 ≤ p) (b : Int32) :
    BKg R N a 0 q q 0 pr fr sz lm (upd pc p (-9)) (upd pd p 0) qu ask wai fee (tak - b) (goneW w p b) := by
  obtain ⟨⟨ha, hask, hw6⟩, hPN, hPt, hOw, hpr, ⟨hfr, hfr0⟩, ⟨hfee, htak⟩, ⟨hci, him, hwai, hw7⟩, ⟨hq1, hq2⟩, hqm, hqd⟩ := B
  have low : ∀ j, j < 49 → j ≠ 5 → goneW w p b j = w j := fun j h h5 => goneW_out h5 (by omega) (by omega)
  have oth : ∀ x, 1 ≤ x → x ≠ p → ∀ t, t < 6 → goneW w p b (43 + t + 6 * x) = w (43 + t + 6 * x) := fun x h1 h2 t ht => goneW_out (by omega) (by omega) (by omega)
  have e43 : ∀ x, 1 ≤ x → goneW w p b (43 + 6 * x) = w (43 + 6 * x) ∧ goneW w p b (44 + 6 * x) = w (44 + 6 * x) := fun x h1 => ⟨goneW_out (by omega) (by omega) (by omega), goneW_out (by omega) (by omega) (by omega)⟩
  have e45 : goneW w p b (45 + 6 * p) = 0 := by
    unfold goneW
    rw [upd_ne (by omega), upd_ne (by omega), upd_at]
  have e48 : goneW w p b (48 + 6 * p) = 0 := by
    unfold goneW
    rw [upd_ne (by omega), upd_at]
  have e5 : goneW w p b 5 = w 5 - b := by
    unfold goneW
    rw [upd_at]
  refine ⟨⟨ha, hask, by rw [low 6 (by omega) (by omega)]; exact hw6⟩, fun x h1 h2 => ?_, fun x h1 h2 h3 => ?_, fun r' hr' s' hs' => ?_, fun r' hr' => by rw [low r' (by omega) (by omega)]; exact hpr r' hr', ⟨fun r' hr' => ?_, hfr0⟩, ⟨by rw [low 4 (by omega) (by omega)]; exact hfee, by rw [e5, htak]⟩, ⟨hci, him, hwai, by rw [low 7 (by omega) (by omega)]; exact hw7⟩, ⟨fun j hj => by rw [low (8 + j) (by omega) (by omega)]; exact hq1 j hj, fun t ht => by omega⟩, fun x hx => ?_, hqd⟩
  · unfold PtN
    rw [(e43 x h1).1, (e43 x h1).2]
    exact hPN x h1 h2
  · by_cases hxp : x = p
    · subst hxp
      exact ⟨by rw [upd_at, e48], Or.inr (Or.inl ⟨by rw [e45]; rfl, upd_at _ _ _, e48⟩)⟩
    · obtain ⟨hd, hst⟩ := hPt x h1 h2 hxp
      have o := oth x h1 hxp
      refine ⟨by rw [upd_ne hxp, o 5 (by omega)]; exact hd, ?_⟩
      rcases hst with ⟨t1, n', r', s', t2, t3, t4, t5, t6, t7, t8⟩ | ⟨t1, t2, t3⟩ | ⟨t1, t2, t3, t4⟩
      · have hN' := hN r' t3
        exact Or.inl ⟨by rw [o 2 (by omega)]; exact t1, n', r', s', by rw [o 0 (by omega)]; exact t2, t3, t4, by rw [o 3 (by omega)]; exact t5, by rw [o 4 (by omega)]; exact t6, by rw [upd_ne hxp]; exact t7, fun k hk => by rw [low _ (by omega) (by omega)]; exact t8 k hk⟩
      · exact Or.inr (Or.inl ⟨by rw [o 2 (by omega)]; exact t1, by rw [upd_ne hxp]; exact t2, by rw [o 5 (by omega)]; exact t3⟩)
      · exact Or.inr (Or.inr ⟨by rw [o 2 (by omega)]; exact t1, by rw [upd_ne hxp]; exact t2, by rw [o 5 (by omega)]; exact t3, t4⟩)
  · have hN' := hN r' hr'
    have e0 := low (13 + 9 * r' + s') (by omega) (by omega)
    rcases hOw r' hr' s' hs' with h | ⟨x, n', s0, q1, q2, q3, q4, q5, q6, q7, q8, q9, q10⟩
    · exact Or.inl (by rw [e0]; exact h)
    · have o := oth x q1 q3
      exact Or.inr ⟨x, n', s0, q1, q2, by omega, by rw [e0]; exact q4, by rw [o 2 (by omega)]; exact q5, by rw [o 3 (by omega)]; exact q6, by rw [o 4 (by omega)]; exact q7, by rw [o 0 (by omega)]; exact q8, q9, q10⟩
  · have hN' := hN r' hr'
    rw [hfr r' hr']
    refine FA_cong (fun k hk => ?_)
    unfold frW
    rw [low _ (by omega) (by omega)]
  · obtain ⟨x', q1, q2, q3, q4, q5⟩ := hqm x hx
    exact ⟨x', q1, q2, by omega, q4, by rw [oth x' q1 q3 2 (by omega)]; exact q5⟩
def bkF (v : Int32) : Int32 := if (0 : Int32) < v then v else 0
theorem bkF_m (v : Int32) : bkF v = (if 0 ≤ v then v else 0) := by
  unfold bkF
  by_cases h : (0 : Int32) < v
  · rw [if_pos h, if_pos (Int32.le_of_lt h)]
  · rw [if_neg h]
    by_cases h2 : (0 : Int32) ≤ v
    · rw [if_pos h2]
      exact Int32.le_antisymm h2 (Int32.not_lt.mp h)
    · rw [if_neg h2]
theorem c_placeOf {pc : Nat → Int32} {a p : Nat} (ha : a ≤ 30) (h1 : 1 ≤ p) (h2 : p ≤ a) : fX0_placeOf (nI a) pc (nI p) = some (pc p) := by
  unfold fX0_placeOf
  rw [c_knows1 ha h1 h2, Option.bind_some, if_neg (by decide), if_neg (nI_in (by omega) (by decide)), nI_clamp (by omega)]
theorem c_isSeated {pc : Nat → Int32} {a p : Nat} (ha : a ≤ 30) (h1 : 1 ≤ p) (h2 : p ≤ a) : fX0_isSeated (nI a) pc (nI p) = some (bI (decide (¬ pc p = (-9 : Int32)))) := by
  unfold fX0_isSeated
  rw [c_placeOf ha h1 h2, Option.bind_some]
  by_cases h : pc p = (-9 : Int32)
  · rw [if_pos h, decide_eq_false (fun z => z h)]
    rfl
  · rw [if_neg h, decide_eq_true h]
    rfl
theorem c_release {a p r s n : Nat} {fee tak : Int32} {fr sz pc pd : Nat → Int32} (ha : a ≤ 30) (h1 : 1 ≤ p) (h2 : p ≤ a) (hr : r < 4) (n6 : n ≤ 6) (hs : s + n ≤ 9) (hs9 : s < 9) (hsz : sz p = nI n) (hpc : pc p = nI (10 * r + s)) : fX0_release (nI a) fee tak fr sz pc pd (nI p) = some (bkF (pd p - sz p * fee), tak - bkF (pd p - sz p * fee), upd fr r (fr r ||| Mk (spn s n)), upd pc p (-9), upd pd p 0) := by
  unfold fX0_release
  rw [c_isSeated ha h1 h2, hpc, decide_eq_true (m9 (by omega)), Option.bind_some, if_neg (by decide), if_neg (nI_in (by omega) (by decide)), if_neg (nI_in (by omega) (by decide)), if_neg (nI_in (by omega) (by decide)), if_neg (nI_in (by omega) (by decide)), nI_clamp (by omega), hpc, hsz, c_clear hr n6 hs, Option.bind_some, if_neg (show ¬ (nI p < 0 ∨ 31 ≤ p) from fun z => z.elim (nI_pos (by omega)) (fun z => by omega)), if_neg (show ¬ (nI p < 0 ∨ 31 ≤ p) from fun z => z.elim (nI_pos (by omega)) (fun z => by omega))]
  rfl
theorem m_returnOn {w : Nat → Int32} {R p r s n : Nat} {mn vm am : Nat → Int32} {h1 h2 h3 : Int32} (hp : 1 ≤ p) (hp3 : p ≤ 30) (hr : r < 4) (hs : s + n ≤ 9) (hn : w (43 + 6 * p) = nI n) (h46 : w (46 + 6 * p) = nI r) (h47 : w (47 + 6 * p) = nI s) : fX9_returnOn (nI R) h1 h2 h3 mn vm am w (nI p) = ((fX9_letInOn (nI R) h1 h2 h3 mn vm am (goneW (layF w r s n 0) p (bkF (w (48 + 6 * p) - w (43 + 6 * p) * w 4)))).bind fun q8 => some (bkF (w (48 + 6 * p) - w (43 + 6 * p) * w 4), q8.1, q8.2.1, q8.2.2.1, q8.2.2.2)) := by
  have h33 : ∀ k0 : Int32, fX9_returnOn_33 (nI R) h1 h2 h3 mn vm am w (nI (43 + 6 * p)) k0 = ((fX9_letInOn (nI R) h1 h2 h3 mn vm am (goneW (layF w r s n 0) p k0)).bind fun q8 => some (k0, q8.1, q8.2.1, q8.2.2.1, q8.2.2.2)) := by
    intro k0
    have ew : upd (upd (layF (upd w 5 (w 5 - k0)) r s n 0) (45 + 6 * p) 0) (48 + 6 * p) 0 = goneW (layF w r s n 0) p k0 := by
      funext j
      unfold goneW
      by_cases h5 : j = 5
      · subst h5
        rw [upd_ne (by omega), upd_ne (by omega), layF_out (by omega), upd_at, upd_at, layF_out (by omega)]
      · rw [upd_ne (k := 5) h5]
        by_cases h8 : j = 48 + 6 * p
        · rw [h8, upd_at, upd_at]
        · rw [upd_ne h8, upd_ne h8]
          by_cases h4 : j = 45 + 6 * p
          · rw [h4, upd_at, upd_at]
          · rw [upd_ne h4, upd_ne h4]
            unfold layF
            by_cases hin : 13 + 9 * r + s ≤ j ∧ j < 13 + 9 * r + s + n
            · rw [if_pos hin, if_pos hin]
            · rw [if_neg hin, if_neg hin, upd_ne h5]
    unfold fX9_returnOn_33
    rw [pl3, pl4, pl0, pl2, pl5, if_neg (nI_in (by omega) (by decide)), if_neg (nI_in (by omega) (by decide)), if_neg (nI_in (by omega) (by decide)), nI_clamp (by omega), nI_clamp (by omega), nI_clamp (by omega), c5, upd_ne (by omega), upd_ne (by omega), upd_ne (by omega), show 43 + 6 * p + 3 = 46 + 6 * p by omega, show 43 + 6 * p + 4 = 47 + 6 * p by omega, show 43 + 6 * p + 0 = 43 + 6 * p from rfl, h46, h47, hn, m_lay hr hs, Option.bind_some, if_neg (nI_in (by omega) (by decide)), if_neg (nI_in (by omega) (by decide)), nI_clamp (by omega), nI_clamp (by omega), show 43 + 6 * p + 2 = 45 + 6 * p by omega, show 43 + 6 * p + 5 = 48 + 6 * p by omega, ew]
  unfold fX9_returnOn
  rw [m_at hp, Option.bind_some, pl5, pl0, if_neg (nI_in (by omega) (by decide)), if_neg (nI_in (by omega) (by decide)), nI_clamp (by omega), nI_clamp (by omega), c4, show 43 + 6 * p + 0 = 43 + 6 * p from rfl, show 43 + 6 * p + 5 = 48 + 6 * p by omega, h33, h33, bkF_m]
  by_cases hb : 0 ≤ w (48 + 6 * p) - w (43 + 6 * p) * w 4
  · rw [if_pos hb, if_pos hb]
  · rw [if_neg hb, if_neg hb]
/-- a seated party in the terms of both sides -/
theorem seated_at {R : Nat} {N : Nat → Nat} {a c i m p e : Nat} {pr fr sz lm pc pd qu : Nat → Int32} {ask wai fee tak : Int32} {w : Nat → Int32} (hN : ∀ r, r < R → N r ≤ 9) (B : BKg R N a e c i m pr fr sz lm pc pd qu ask wai fee tak w) (hp1 : 1 ≤ p) (hpa : p ≤ a) (hpe : p ≠ e) (hst : w (45 + 6 * p) = nI 1) : ∃ n r s, 1 ≤ n ∧ n ≤ 6 ∧ w (43 + 6 * p) = nI n ∧ sz p = nI n ∧ r < R ∧ s + n ≤ N r ∧ w (46 + 6 * p) = nI r ∧ w (47 + 6 * p) = nI s ∧ pc p = nI (10 * r + s) ∧ pd p = w (48 + 6 * p) ∧ ∀ k, k < n → w (13 + 9 * r + (s + k)) = nI p := by
  obtain ⟨-, hPN, hPt, -⟩ := B
  obtain ⟨hsz, -, ⟨n, n1, n6, hn⟩, -⟩ := hPN p hp1 hpa
  obtain ⟨hd, h | h | h⟩ := hPt p hp1 hpa hpe
  · obtain ⟨t1, n', r', s', t2, t3, t4, t5, t6, t7, t8⟩ := h
    have hN' := hN r' t3
    have e : n' = n := nI_inj (by omega) (by omega) (t2.symm.trans hn)
    subst e
    exact ⟨n', r', s', n1, n6, hn, by rw [hsz]; exact hn, t3, t4, t5, t6, t7, hd, t8⟩
  · exact absurd (nI_inj (by decide) (by decide) (hst.symm.trans h.1)) (by decide)
  · exact absurd (nI_inj (by decide) (by decide) (hst.symm.trans h.1)) (by decide)
/-- whether a party is seated, is told alike -/
theorem seated_iff {R : Nat} {N : Nat → Nat} {a c i m p e : Nat} {pr fr sz lm pc pd qu : Nat → Int32} {ask wai fee tak : Int32} {w : Nat → Int32} (hR : R ≤ 4) (hN : ∀ r, r < R → N r ≤ 9) (B : BKg R N a e c i m pr fr sz lm pc pd qu ask wai fee tak w) (hp1 : 1 ≤ p) (hpa : p ≤ a) (hpe : p ≠ e) : (¬ pc p = (-9 : Int32)) ↔ w (45 + 6 * p) = nI 1 := by
  constructor
  · intro h
    obtain ⟨hd, h2 | h2 | h2⟩ := B.2.2.1 p hp1 hpa hpe
    · exact h2.1
    · exact absurd h2.2.1 h
    · exact absurd h2.2.1 h
  · intro h
    obtain ⟨n, r, s, n1, n6, e1, e2, e3, e4, e5, e6, e7, -⟩ := seated_at hN B hp1 hpa hpe h
    have hN' := hN r e3
    rw [e7]
    exact m9 (by omega)
/-- both sides: seats given back, others let in -/
theorem L_return {R : Nat} {N : Nat → Nat} {al : Nat → Nat → Bool} {vw : Nat → Nat → Nat} {se jo vi mn am vm : Nat → Int32} (H : HallP R N al vw se jo vi) (HM : HallM R N al vw mn am vm) {a q p : Nat} {pr fr sz lm pc pd qu w : Nat → Int32} {wai fee tak : Int32} (B : BKg R N a 0 q q 0 pr fr sz lm pc pd qu (nI a) wai fee tak w) (hp1 : 1 ≤ p) (hpa : p ≤ a) (hst : w (45 + 6 * p) = nI 1) (f1 f2 f3 f4 h1 h2 h3 : Int32) :
    ∃ (bk tak1 g1 g2 g3 g4 wai' tak' k1 k2 k3 : Int32) (fr1 pc1 pd1 fr' pc' pd' qu' w' : Nat → Int32) (q' : Nat),
      fX0_release (nI a) fee tak fr sz pc pd (nI p) = some (bk, tak1, fr1, pc1, pd1) ∧
      fX8_letIn (nI R) se jo vi f1 f2 f3 f4 (nI a) wai tak1 pr fr1 sz lm pc1 pd1 qu = some (g1, g2, g3, g4, wai', tak', fr', pc', pd', qu') ∧
      fX9_returnOn (nI R) h1 h2 h3 mn vm am w (nI p) = some (bk, k1, k2, k3, w') ∧
      BKg R N a 0 q' q' 0 pr fr' sz lm pc' pd' qu' (nI a) wai' fee tak' w' := by
  obtain ⟨hR, hvw, hrow⟩ := id H
  have hN : ∀ r, r < R → N r ≤ 9 := fun r hr => (hrow r hr).1.2
  obtain ⟨⟨ha, -, -⟩, -, -, -, -, -, ⟨hfee, htak⟩, -⟩ := id B
  obtain ⟨n, r, s, n1, n6, e1, e2, e3, e4, e5, e6, e7, e8, e9⟩ := seated_at hN B hp1 hpa (by omega) hst
  have hN9 := hN r e3
  have B1 := L_gone hR hN (L_unseat hR hN B hp1 hpa hst e1 n6 e3 e4 e5 e6 e9) hp1 (bkF (pd p - sz p * fee))
  obtain ⟨g1, g2, g3, g4, wai', tak', k1, k2, k3, fr', pc', pd', qu', w', q', l1, l2, B2⟩ := L_letIn H HM B1 f1 f2 f3 f4 h1 h2 h3
  refine ⟨_, _, g1, g2, g3, g4, wai', tak', k1, k2, k3, _, _, _, fr', pc', pd', qu', w', q', c_release ha hp1 hpa (by omega) n6 (by omega) (by omega) e2 e7, l1, ?_, B2⟩
  rw [m_returnOn hp1 (by omega) (by omega) (by omega) e1 e5 e6]
  have eb : w (48 + 6 * p) - w (43 + 6 * p) * w 4 = pd p - sz p * fee := by rw [e8, e2, e1, hfee]
  rw [eb, l2, Option.bind_some]
