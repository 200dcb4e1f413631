theorem bst_ok {R : Nat} {N : Nat → Nat} {al : Nat → Nat → Bool} {vw : Nat → Nat → Nat} {se jo vi : Nat → Int32} (H : HallP R N al vw se jo vi) {a e c i m : Nat} {pr fr sz lm pc pd qu : Nat → Int32} {ask wai fee tak : Int32} {w : Nat → Int32} (B : BKg R N a e c i m pr fr sz lm pc pd qu ask wai fee tak w) {n : Nat} (hn : n ≤ 6) (lim : Nat) : accOk (bst R N al vw w n lim) 36 := by
  obtain ⟨hR, hvw, hrow⟩ := H
  obtain ⟨-, -, -, -, hpr, -⟩ := B
  exact (allS_ok hR (fun k hk => (hrow k hk).1.2) (quS_lt hvw hn) (fun k hk => by have := (pv_of (hpr k hk).2).2.2; omega)).up (by omega)
theorem c_waitingAt {qu : Nat → Int32} {k x : Nat} (hk : k ≤ 5) (hx : x < k) : fX0_waitingAt (nI k) qu (nI x) = some (qu x) := by
  unfold fX0_waitingAt
  rw [if_neg (nI_pos (by omega)), if_neg (nI_ge hx (by omega)), if_neg (nI_in (by omega) (by decide)), nI_clamp (by omega)]
theorem c_sizeOf {sz : Nat → Int32} {a p : Nat} (ha : a ≤ 30) (h1 : 1 ≤ p) (h2 : p ≤ a) : fX0_sizeOf (nI a) sz (nI p) = some (sz p) := by
  unfold fX0_sizeOf
  rw [c_knows1 ha h1 h2, Option.bind_some, if_neg (by decide), if_neg (nI_in (by omega) (by decide)), nI_clamp (by omega)]
theorem c_limitOf {lm : Nat → Int32} {a p : Nat} (ha : a ≤ 30) (h1 : 1 ≤ p) (h2 : p ≤ a) : fX0_limitOf (nI a) lm (nI p) = some (lm p) := by
  unfold fX0_limitOf
  rw [c_knows1 ha h1 h2, Option.bind_some, if_neg (by decide), if_neg (nI_in (by omega) (by decide)), nI_clamp (by omega)]
/-- both sides let in, party by party -/
theorem L_letLoop {R : Nat} {N : Nat → Nat} {al : Nat → Nat → Bool} {vw : Nat → Nat → Nat} {se jo vi mn am vm : Nat → Int32} (H : HallP R N al vw se jo vi) (HM : HallM R N al vw mn am vm) {a : Nat} {pr sz lm : Nat → Int32} {fee : Int32} :
    ∀ (m c i T fu : Nat) (wai tak f1 f2 f3 f4 h1 h2 h3 : Int32) (fr pc pd qu w : Nat → Int32), BKg R N a 0 c i m pr fr sz lm pc pd qu (nI a) wai fee tak w → T = i + m → m + 1 ≤ fu →
    ∃ (g1 g2 g3 g4 wai' tak' k1 k2 k3 : Int32) (fr' pc' pd' qu' w' : Nat → Int32) (c' : Nat),
      fX8_letIn_10 fu (nI R) se jo vi f1 f2 f3 f4 (nI a) wai tak pr fr sz lm pc pd qu (nI T) (nI c) (nI i) = some (g1, g2, g3, g4, wai', tak', fr', pc', pd', qu') ∧
      fX9_letInOn_12 fu (nI R) h1 h2 h3 mn vm am w (nI T) (nI i) = some (k1, k2, k3, w') ∧
      BKg R N a 0 c' T 0 pr fr' sz lm pc' pd' qu' (nI a) wai' fee tak' w' := by
  obtain ⟨hR, hvw, hrow⟩ := id H
  have hN : ∀ r, r < R → N r ≤ 9 := fun r hr => (hrow r hr).1.2
  intro m
  induction m with
  | zero =>
    intro c i T fu wai tak f1 f2 f3 f4 h1 h2 h3 fr pc pd qu w B hT hfu
    obtain ⟨fu, rfl⟩ : ∃ k, fu = k + 1 := ⟨fu - 1, by omega⟩
    have hTi : T = i := by omega
    subst hTi
    have him := B.2.2.2.2.2.2.2.1.2.1
    refine ⟨f1, f2, f3, f4, wai, tak, h1, h2, h3, fr, pc, pd, qu, w, c, ?_, ?_, B⟩
    · rw [fX8_letIn_10, if_pos (nI_le (Nat.le_refl _) (by omega))]
    · rw [fX9_letInOn_12, if_pos (nI_le (Nat.le_refl _) (by omega))]
  | succ m ih =>
    intro c i T fu wai tak f1 f2 f3 f4 h1 h2 h3 fr pc pd qu w B hT hfu
    obtain ⟨fu, rfl⟩ : ∃ k, fu = k + 1 := ⟨fu - 1, by omega⟩
    obtain ⟨⟨ha, hask, hw6⟩, hPN, hPt, hOw, hpr, hfrs, hft, ⟨hci, him, hwai, hw7⟩, ⟨hq1, hq2⟩, hqm, hqd⟩ := id B
    obtain ⟨p, hp1, hpa, -, hqp, h2w⟩ := hqm c (by omega)
    obtain ⟨hsz, hlm, ⟨n, n1, n6, hwn⟩, ⟨l, l1, l9, hwl⟩⟩ := hPN p hp1 hpa
    have hwi : w (8 + i) = nI p := by
      have := hq2 0 (by omega)
      rw [Nat.add_zero, Nat.add_zero] at this
      rw [← this]
      exact hqp
    have hok := bst_ok H B n6 l
    have hb : ∀ y, y < c → ¬ qu y = nI p := fun y hy e => by
      rw [← hqp] at e
      have := hqd y c (by omega) (by omega) e
      omega
    have eC : fX8_letIn_10 (fu + 1) (nI R) se jo vi f1 f2 f3 f4 (nI a) wai tak pr fr sz lm pc pd qu (nI T) (nI c) (nI i) = (if plI (bst R N al vw w n l) = (-9 : Int32) then fX8_letIn_10 fu (nI R) se jo vi (nI (bst R N al vw w n l).1) (plI (bst R N al vw w n l)) (nI (bst R N al vw w n l).2.2.1) (nI (bst R N al vw w n l).2.2.2) (nI a) wai tak pr fr sz lm pc pd qu (nI T) (nI (c + 1)) (nI (i + 1)) else ((fX0_dequeue wai qu (nI p)).bind fun q9 => ((fX0_settle (nI a) tak pr fr sz pc pd (nI p) (plI (bst R N al vw w n l))).bind fun q11 => fX8_letIn_10 fu (nI R) se jo vi (nI (bst R N al vw w n l).1) (plI (bst R N al vw w n l)) (nI (bst R N al vw w n l).2.2.1) (nI (bst R N al vw w n l).2.2.2) (nI a) q9.1 q11.1 pr q11.2.1 sz lm q11.2.2.1 q11.2.2.2 q9.2 (nI T) (nI c) (nI (i + 1))))) := by
      rw [fX8_letIn_10, if_neg (nI_ge (by omega) (by omega)), hwai, c_waitingAt (by omega) (by omega), Option.bind_some, hqp, c_sizeOf ha hp1 hpa, Option.bind_some, hsz, hwn, c_limitOf ha hp1 hpa, Option.bind_some, hlm, hwl, L_look H B n1 n6 l9, Option.bind_some, nI_1, nI_1]
      rfl
    have eM : fX9_letInOn_12 (fu + 1) (nI R) h1 h2 h3 mn vm am w (nI T) (nI i) = (if nI (bst R N al vw w n l).1 ≤ 0 then fX9_letInOn_12 fu (nI R) (plI (bst R N al vw w n l)) (fvI (bst R N al vw w n l)) (nI (bst R N al vw w n l).1) mn vm am (upd (upd w (8 + c) (qu c)) 7 (nI (c + 1))) (nI T) (nI (i + 1)) else ((fX9_payOn (plI (bst R N al vw w n l)) w (nI p)).bind fun q11 => fX9_letInOn_12 fu (nI R) (plI (bst R N al vw w n l)) (fvI (bst R N al vw w n l)) (nI (bst R N al vw w n l).1) mn vm am q11 (nI T) (nI (i + 1)))) := by
      rw [fX9_letInOn_12, if_neg (nI_ge (by omega) (by omega)), lp8x, if_neg (nI_in (by omega) (by decide)), nI_clamp (by omega), hwi, m_at hp1, Option.bind_some, pl0, if_neg (nI_in (by omega) (by decide)), Option.bind_some, pl1, if_neg (nI_in (by omega) (by decide)), nI_clamp (by omega), nI_clamp (by omega), show 43 + 6 * p + 0 = 43 + 6 * p from rfl, show 43 + 6 * p + 1 = 44 + 6 * p by omega, hwn, hwl, L_find HM B n1 n6 l9, Option.bind_some]
      dsimp only
      have e87 : 8 + w 7 = nI (8 + c) := by rw [hw7, lp8x]
      rw [show (7 : Int32).toNatClampNeg = 7 from rfl, if_neg (show ¬ (8 + w 7 < 0 ∨ 229 ≤ (8 + w 7).toNatClampNeg) from by rw [e87]; exact nI_in (by omega) (by decide)), e87, nI_clamp (by omega), upd_ne (show 7 ≠ 8 + c by omega), hw7, nI_1, nI_1, hqp]
    rw [eC, eM]
    by_cases c0 : (bst R N al vw w n l).1 = 0
    · rw [if_pos ((plI_9 hok).mpr c0), if_pos ((le0 (by have := hok.1; omega)).mpr c0)]
      exact ih (c + 1) (i + 1) T fu wai tak _ _ _ _ _ _ _ fr pc pd qu _ (L_stay hR hN B) (by omega) (by omega)
    · obtain ⟨r, s, hr, hs, epl, hfree, -⟩ := bst_at c0
      have hN9 := hN r hr
      rw [if_neg (fun e => c0 ((plI_9 hok).mp e)), if_neg (fun e => c0 ((le0 (by have := hok.1; omega)).mp e)), epl, hwai, c_dequeue (by omega) (show c < c + (m + 1) by omega) hqp hb, Option.bind_some, c_settle ha hp1 hpa (by omega) n6 (by omega) (by omega) (by rw [hsz]; exact hwn), Option.bind_some, m_payOn hp1 (by omega) (by omega) (by omega) (by omega) hwn, Option.bind_some]
      have B2 := L_settle hR hN (L_deq B hp1 hpa hqp h2w) hp1 hpa hr hwn hs hfree
      rw [(hpr r hr).1]
      exact ih c (i + 1) T fu _ _ _ _ _ _ _ _ _ _ _ _ _ _ B2 (by omega) (by omega)
theorem L_letIn {R : Nat} {N : Nat → Nat} {al : Nat → Nat → Bool} {vw : Nat → Nat → Nat} {se jo vi mn am vm : Nat → Int32} (H : HallP R N al vw se jo vi) (HM : HallM R N al vw mn am vm) {a q : Nat} {pr fr sz lm pc pd qu w : Nat → Int32} {wai fee tak : Int32} (B : BKg R N a 0 q q 0 pr fr sz lm pc pd qu (nI a) wai fee tak w) (f1 f2 f3 f4 h1 h2 h3 : Int32) :
    ∃ (g1 g2 g3 g4 wai' tak' k1 k2 k3 : Int32) (fr' pc' pd' qu' w' : Nat → Int32) (q' : Nat),
      fX8_letIn (nI R) se jo vi f1 f2 f3 f4 (nI a) wai tak pr fr sz lm pc pd qu = some (g1, g2, g3, g4, wai', tak', fr', pc', pd', qu') ∧
      fX9_letInOn (nI R) h1 h2 h3 mn vm am w = some (k1, k2, k3, w') ∧
      BKg R N a 0 q' q' 0 pr fr' sz lm pc' pd' qu' (nI a) wai' fee tak' w' := by
  obtain ⟨⟨ha, hask, hw6⟩, hPN, hPt, hOw, hpr, ⟨hfr, hfr0⟩, ⟨hfee, htak⟩, ⟨hci, him, hwai, hw7⟩, ⟨hq1, hq2⟩, hqm, hqd⟩ := id B
  have hR := H.1
  have out : ∀ j, j ≠ 7 → upd w 7 0 j = w j := fun j h => upd_ne h
  have B0 : BKg R N a 0 0 0 q pr fr sz lm pc pd qu (nI a) wai fee tak (upd w 7 0) := by
    refine ⟨⟨ha, hask, by rw [out 6 (by omega)]; exact hw6⟩, fun x g1 g2 => ?_, fun x g1 g2 g3 => ?_, fun r' hr' s' hs' => ?_, fun r' hr' => by rw [out r' (by omega)]; exact hpr r' hr', ⟨fun r' hr' => ?_, hfr0⟩, ⟨by rw [out 4 (by omega)]; exact hfee, by rw [out 5 (by omega)]; exact htak⟩, ⟨by omega, by omega, by rw [hwai, Nat.zero_add, Nat.add_zero], by rw [upd_at]; rfl⟩, ⟨fun j hj => by omega, fun t ht => ?_⟩, fun x hx => ?_, fun x y hx hy e => hqd x y (by omega) (by omega) e⟩
    · unfold PtN
      rw [out _ (by omega), out _ (by omega)]
      exact hPN x g1 g2
    · obtain ⟨hd, hst⟩ := hPt x g1 g2 g3
      rw [Nat.zero_add]
      rw [Nat.add_zero] at hst
      refine ⟨by rw [out _ (by omega)]; exact hd, ?_⟩
      rcases hst with ⟨t1, n', r', s', t2, t3, t4, t5, t6, t7, t8⟩ | ⟨t1, t2, t3⟩ | ⟨t1, t2, t3, t4⟩
      · exact Or.inl ⟨by rw [out _ (by omega)]; exact t1, n', r', s', by rw [out _ (by omega)]; exact t2, t3, t4, by rw [out _ (by omega)]; exact t5, by rw [out _ (by omega)]; exact t6, t7, fun k hk => by rw [out _ (by omega)]; exact t8 k hk⟩
      · exact Or.inr (Or.inl ⟨by rw [out _ (by omega)]; exact t1, t2, by rw [out _ (by omega)]; exact t3⟩)
      · exact Or.inr (Or.inr ⟨by rw [out _ (by omega)]; exact t1, t2, by rw [out _ (by omega)]; exact t3, t4⟩)
    · have e0 := out (13 + 9 * r' + s') (by omega)
      rcases hOw r' hr' s' hs' with h | ⟨x, n', s0, q1, q2, q3, q4, q5, q6, q7, q8, q9, q10⟩
      · exact Or.inl (by rw [e0]; exact h)
      · exact Or.inr ⟨x, n', s0, q1, q2, q3, by rw [e0]; exact q4, by rw [out _ (by omega)]; exact q5, by rw [out _ (by omega)]; exact q6, by rw [out _ (by omega)]; exact q7, by rw [out _ (by omega)]; exact q8, q9, q10⟩
    · rw [hfr r' hr']
      refine FA_cong (fun k hk => ?_)
      unfold frW
      rw [out _ (by omega)]
    · rw [out _ (by omega), Nat.zero_add, Nat.add_zero]
      exact hq1 t ht
    · obtain ⟨x', q1, q2, q3, q4, q5⟩ := hqm x (by omega)
      exact ⟨x', q1, q2, q3, q4, by rw [out _ (by omega)]; exact q5⟩
  obtain ⟨g1, g2, g3, g4, wai', tak', k1, k2, k3, fr', pc', pd', qu', w', c', e1, e2, B'⟩ := L_letLoop H HM q 0 0 q FU wai tak f1 f2 f3 f4 h1 h2 h3 fr pc pd qu _ B0 (by omega) (by have := FU_ge (k := 10) (by decide); omega)
  refine ⟨g1, g2, g3, g4, wai', tak', k1, k2, k3, fr', pc', pd', qu', w', c', ?_, ?_, ?_⟩
  · unfold fX8_letIn fX0_waiting
    rw [Option.bind_some]
    rw [Nat.add_zero] at hwai
    have e1' := e1
    rw [← hwai] at e1'
    exact e1'
  · unfold fX9_letInOn
    rw [show (7 : Int32).toNatClampNeg = 7 from rfl, hw7]
    exact e2
  · obtain ⟨b1, b2, b3, b4, b5, b6, b7, ⟨b8, b9, b10, b11⟩, ⟨b12, b13⟩, b14, b15⟩ := B'
    exact ⟨b1, b2, b3, b4, b5, b6, b7, ⟨Nat.le_refl _, by omega, b10, b11⟩, ⟨b12, fun t ht => by omega⟩, b14, b15⟩
