/-! what only reads: row, seat, party, waits, count, best -/
def HLast (R : Nat) (N : Nat → Nat) (al : Nat → Nat → Bool) : Prop := ∀ r, r < R → ∀ k, k + 1 = N r → al r k = false
theorem ct_JA {N : Nat → Nat} {al : Nat → Nat → Bool} {r : Nat} (h1 : 1 ≤ N r) (h9 : N r ≤ 9) (hl : ∀ k, k + 1 = N r → al r k = false) : fb_ct (JA N al r) 9 + (1 + fb_ct (al r) (N r)) = N r := by
  obtain ⟨m, hm⟩ : ∃ m, N r = m + 1 := ⟨N r - 1, by omega⟩
  have e1 : fb_ct (JA N al r) 9 = fb_ct (fun k => !al r k) m := by
    have h := ct_less (P := fun k => !al r k) (N := m) (9 - m)
    rw [show m + (9 - m) = 9 by omega] at h
    rw [← h]
    refine fb_ct_cong (fun k hk => ?_)
    unfold JA
    rw [hm]
    congr 1
    exact decide_eq_decide.mpr (by omega)
  have e2 := fb_ct_not (al r) m
  rw [hm, fb_ct_succ (al r) m, hl m (by omega), e1]
  simp
  omega
theorem m_row73 {R N r : Nat} {a : Nat → Bool} {mn al w : Nat → Int32} {th : Int32} (hr : r < 4) (hN : mn r = nI N) (hN9 : N ≤ 9) (ha : ∀ k, k < N → al (9 * r + k) = bI (a k)) : ∀ fu i, i ≤ N → N + 1 ≤ i + fu → fX9_row_73 fu th (nI R) mn al w (nI r) (nI (1 + fb_ct a i)) (nI i) = some (nI (1 + fb_ct a N), th) := by
  intro fu
  induction fu with
  | zero => intro i h1 h2; omega
  | succ fu ih =>
    intro i h1 h2
    rw [fX9_row_73, if_neg (nI_in (by omega) (by decide)), nI_clamp (n := r) (by omega), hN]
    by_cases h : i = N
    · subst h
      rw [if_pos (nI_le (Nat.le_refl _) (by omega))]
    · have e : (9 : Int32) * nI r + nI i = nI (9 * r + i) := by rw [show (9 : Int32) = nI 9 from rfl, pk_mul, nI_add]
      rw [if_neg (nI_ge (by omega) (by omega)), e, if_neg (nI_in (by omega) (by decide)), nI_clamp (by omega), ha i (by omega), pl0, pl1, pl1]
      have ih2 := ih (i + 1) (by omega) (by omega)
      rw [fb_ct_succ] at ih2
      cases hb : a i with
      | false =>
        rw [hb] at ih2
        rw [ib_f]
        exact ih2
      | true =>
        rw [hb] at ih2
        rw [ib_t]
        exact ih2
theorem O_row {R : Nat} {N : Nat → Nat} {al : Nat → Nat → Bool} {vw : Nat → Nat → Nat} {se jo vi mn am vm : Nat → Int32} (H : HallP R N al vw se jo vi) (HM : HallM R N al vw mn am vm) (hl : HLast R N al) {pr fr sz lm pc pd qu w : Nat → Int32} {ask wai fee tak : Int32} (B : BK R N pr fr sz lm pc pd qu ask wai fee tak w) (th x1 x2 : Int32) :
    ∃ ans : Int32, fX8_row (nI R) se jo pr fr x1 x2 = some ans ∧ fX9_row th (nI R) mn am w x1 x2 = some (ans, 0) := by
  obtain ⟨hR, hN, hse⟩ := HallP_N H
  obtain ⟨a, q, B⟩ := B
  obtain ⟨-, -, -, -, hpr, ⟨hfr, -⟩, -⟩ := id B
  unfold fX8_row fX9_row
  rw [c_hasRowQ, Option.bind_some, m_noRow (by omega), Option.bind_some]
  cases hr : inQ x1 R with
  | false =>
    rw [ib_f, Bool.not_false, ib_t]
    exact ⟨_, rfl, rfl⟩
  | true =>
    obtain ⟨r, hrR, rfl⟩ := inQ_at (by omega) hr
    obtain ⟨-, -, hrM⟩ := id HM
    obtain ⟨⟨N1, N9⟩, hmn, ham, hvm⟩ := hrM r hrR
    obtain ⟨-, -, hrP⟩ := id H
    obtain ⟨-, -, hjo, hvi⟩ := hrP r hrR
    rw [ib_t, Bool.not_true, ib_f]
    by_cases g0 : x2 = 0
    · rw [if_pos g0, if_pos g0, c_priceOf (by omega), Option.bind_some, lp0x, Nat.zero_add, if_neg (nI_in (by omega) (by decide)), nI_clamp (by omega), (hpr r hrR).1]
      exact ⟨_, rfl, rfl⟩
    rw [if_neg g0, if_neg g0]
    by_cases g1 : x2 = 1
    · rw [if_pos g1, if_pos g1, c_seatsIn hR hrR, Option.bind_some, if_neg (nI_in (by omega) (by decide)), nI_clamp (by omega), hse r hrR, hmn]
      exact ⟨_, rfl, rfl⟩
    rw [if_neg g1, if_neg g1]
    by_cases g2 : x2 = 2
    · unfold fX4_blocksIn
      have h73 := m_row73 (R := R) (w := w) (th := 0) (show r < 4 by omega) hmn N9 ham FU 0 (by omega) (by have := FU_ge (k := 10) (by decide); omega)
      have hct := ct_JA N1 N9 (hl r hrR)
      rw [if_pos g2, if_pos g2, c_hasRow1 hR hrR, Option.bind_some, i1_t, if_neg (nI_in (by omega) (by decide)), if_neg (nI_in (by omega) (by decide)), nI_clamp (by omega), hjo, bc_Mk, Option.bind_some, hse r hrR, pk_sub (by omega), Option.bind_some]
      refine ⟨_, rfl, ?_⟩
      rw [show N r - fb_ct (JA N al r) 9 = 1 + fb_ct (al r) (N r) by omega]
      exact h73
    rw [if_neg g2, if_neg g2]
    by_cases g3 : x2 = 3
    · rw [if_pos g3, if_pos g3, c_freeIn (by omega), Option.bind_some, m_freeIn (by omega) hmn N9, Option.bind_some, hfr r hrR]
      refine ⟨_, rfl, ?_⟩
      unfold Mk
      have h := mkN_more (P := FA N w r) (n := N r) (9 - N r) (fun k hk => by unfold FA; rw [decide_eq_false (by omega)]; rfl)
      rw [show N r + (9 - N r) = 9 by omega] at h
      rw [h, mkN_cong (P := FA N w r) (Q := frW w r) (fun k hk => by unfold FA; rw [decide_eq_true hk]; rfl)]
    rw [if_neg g3, if_neg g3]
    by_cases g4 : x2 = 4
    · rw [if_pos g4, if_pos g4, c_freeIn (by omega), Option.bind_some, m_loneIn (by omega) hmn N9 ham, Option.bind_some, hfr r hrR, c_loneOf hR hrR hjo (fun k hk => by unfold FA; rw [decide_eq_false (by omega)]; rfl), Option.bind_some]
      refine ⟨_, rfl, ?_⟩
      unfold Mk
      have h := mkN_more (P := loB (FA N w r) (JA N al r)) (n := N r) (9 - N r) (fun k hk => lo_out (by unfold FA; rw [decide_eq_false (by omega)]; rfl))
      rw [show N r + (9 - N r) = 9 by omega] at h
      rw [h, mkN_cong (P := loB (FA N w r) (JA N al r)) (Q := loM (N r) (al r) (frW w r)) (fun k hk => lo_same hk)]
    rw [if_neg g4, if_neg g4]
    exact ⟨_, rfl, rfl⟩
theorem subI_toInt {a b : Nat} (ha : a < 2 ^ 30) (hb : b < 2 ^ 30) : (nI a - nI b).toInt = (a : Int) - b := by
  have e1 := toInt_nI (n := a) (by omega)
  have e2 := toInt_nI (n := b) (by omega)
  rw [fb_subI (by omega) (by omega)]
  omega
theorem c_takerLoop {R : Nat} {N : Nat → Nat} {a q r s : Nat} {pr fr sz lm pc pd qu : Nat → Int32} {ask wai fee tak : Int32} {w : Nat → Int32} (hR : R ≤ 4) (hN : ∀ r, r < R → N r ≤ 9) (B : BKg R N a 0 q q 0 pr fr sz lm pc pd qu ask wai fee tak w) (hr : r < R) (hs : s < N r) : ∀ fu p, 1 ≤ p → p ≤ a + 1 → a + 2 ≤ p + fu → (∀ y, 1 ≤ y → y < p → ¬ w (13 + 9 * r + s) = nI y) → fX0_takerOf_2 fu (nI a) sz pc (nI r) (nI s) (nI p) = some (w (13 + 9 * r + s)) := by
  have hN9 := hN r hr
  obtain ⟨⟨ha, -⟩, -, -, hOw, -⟩ := id B
  intro fu
  induction fu with
  | zero => intro p h0 h1 h2 h3; omega
  | succ fu ih =>
    intro p h0 h1 h2 hno
    rw [fX0_takerOf_2]
    by_cases hpa : p = a + 1
    · subst hpa
      rw [if_pos (nI_lt' (by omega) (by omega))]
      rcases hOw r hr s hs with h | ⟨y, n, s0, y1, y2, -, y4, -⟩
      · rw [h]
      · exact absurd y4 (hno y y1 (by omega))
    · have hpa2 : p ≤ a := by omega
      have hgo : ¬ w (13 + 9 * r + s) = nI p → fX0_takerOf_2 fu (nI a) sz pc (nI r) (nI s) (nI (p + 1)) = some (w (13 + 9 * r + s)) := fun hne => ih (p + 1) (by omega) (by omega) (by omega) (fun y y1 y2 => by
        by_cases hy : y = p
        · subst hy
          exact hne
        · exact hno y y1 (by omega))
      have epl : (10 : Int32) * nI r + nI s = nI (10 * r + s) := by rw [show (10 : Int32) = nI 10 from rfl, pk_mul, nI_add]
      unfold fX8_placeAt
      rw [if_neg (show ¬ nI a < nI p from nI_nlt (by omega) (by omega)), Option.bind_some, epl, c_placeOf ha h0 hpa2, Option.bind_some, c_isSeated ha h0 hpa2, Option.bind_some, nI_1]
      by_cases hst : w (45 + 6 * p) = nI 1
      · obtain ⟨n, r', s', n1, n6, e1, e2, e3, e4, e5, e6, e7, e8, e9⟩ := seated_at hN B h0 hpa2 (by omega) hst
        have hN' := hN r' e3
        have hd := subI_toInt (a := 10 * r + s) (b := 10 * r' + s') (by omega) (by omega)
        rw [decide_eq_true ((seated_iff hR hN B h0 hpa2 (by omega)).mpr hst), ib_t, e7]
        have hcov : w (13 + 9 * r + s) = nI p → r = r' ∧ s' ≤ s ∧ s < s' + n := fun hw => by
          rcases hOw r hr s hs with h | ⟨y, n2, s0, y1, y2, -, y4, y5, y6, y7, y8, y9, y10, y11⟩
          · rw [h] at hw
            exact absurd hw.symm (ne0 h0 (by omega))
          · have : y = p := nI_inj (by omega) (by omega) (y4.symm.trans hw)
            subst this
            have z1 : r = r' := nI_inj (by omega) (by omega) (y6.symm.trans e5)
            have z2 : s0 = s' := nI_inj (by omega) (by omega) (y7.symm.trans e6)
            have z3 : n2 = n := nI_inj (by omega) (by omega) (y8.symm.trans e1)
            omega
        by_cases c1 : 10 * r + s < 10 * r' + s'
        · rw [if_pos ((fa_lt _ _).mpr (by rw [hd]; show _ < (0 : Int); omega))]
          exact hgo (fun hw => by have := hcov hw; omega)
        · rw [if_neg (fun e => by have := (fa_lt _ _).mp e; rw [hd] at this; have e0 : (0 : Int32).toInt = 0 := rfl; omega), c_sizeOf ha h0 hpa2, Option.bind_some, e2]
          have hn := toInt_nI (n := n) (by omega)
          by_cases c2 : 10 * r' + s' + n ≤ 10 * r + s
          · rw [if_pos ((fa_le _ _).mpr (by rw [hd, hn]; omega))]
            exact hgo (fun hw => by have := hcov hw; omega)
          · rw [if_neg (fun e => by have := (fa_le _ _).mp e; rw [hd, hn] at this; omega)]
            have hrr : r = r' := by omega
            subst hrr
            have := e9 (s - s') (by omega)
            rw [show s' + (s - s') = s by omega] at this
            rw [this]
      · rw [decide_eq_false (fun h => hst ((seated_iff hR hN B h0 hpa2 (by omega)).mp h)), ib_f]
        refine hgo (fun hw => ?_)
        rcases hOw r hr s hs with h | ⟨y, n2, s0, y1, y2, -, y4, y5, -⟩
        · rw [h] at hw
          exact ne0 h0 (by omega) hw.symm
        · have : y = p := nI_inj (by omega) (by omega) (y4.symm.trans hw)
          subst this
          exact hst y5
theorem c_takerOf {R : Nat} {N : Nat → Nat} {a q r s : Nat} {pr fr sz lm pc pd qu : Nat → Int32} {ask wai fee tak : Int32} {w : Nat → Int32} (hR : R ≤ 4) (hN : ∀ r, r < R → N r ≤ 9) (B : BKg R N a 0 q q 0 pr fr sz lm pc pd qu ask wai fee tak w) (hr : r < R) (hs : s < N r) : fX0_takerOf (nI a) sz pc (nI r) (nI s) = some (w (13 + 9 * r + s)) := c_takerLoop hR hN B hr hs FU 1 (by omega) (by omega) (by have := FU_ge (k := 50) (by decide); have := B.1.1; omega) (fun y y1 y2 => by omega)
theorem Mk_one (J : Nat → Bool) {s : Nat} (hs : s < 9) : (Mk J &&& ((1 : Int32) <<< (nI s &&& 31))) = 0 ↔ J s = false := by
  have e : (1 : Int32) <<< (nI s &&& 31) = Mk (fun i => decide (i = s)) := by
    rw [sh1 s (by omega)]
    refine Mk_ext (fun i hi => ?_)
    rw [bt_nI _ _ hi, Nat.testBit_two_pow]
    by_cases h : s = i
    · subst h
      simp [hs]
    · have h2 : ¬ i = s := fun q => h q.symm
      simp [h, h2]
  rw [e, Mk_and, ← Mk_0]
  constructor
  · intro h
    have := Mk_inj h hs
    rw [decide_eq_true rfl, Bool.and_true] at this
    exact this
  · intro h
    refine Mk_cong (fun k hk => ?_)
    by_cases g : k = s
    · subst g
      rw [h]
      rfl
    · rw [decide_eq_false g, Bool.and_false]
theorem O_seat {R : Nat} {N : Nat → Nat} {al : Nat → Nat → Bool} {vw : Nat → Nat → Nat} {se jo vi mn am vm : Nat → Int32} (H : HallP R N al vw se jo vi) (HM : HallM R N al vw mn am vm) (hl : HLast R N al) {pr fr sz lm pc pd qu w : Nat → Int32} {ask wai fee tak : Int32} (B : BK R N pr fr sz lm pc pd qu ask wai fee tak w) (th x1 x2 x3 : Int32) :
    ∃ ans : Int32, fX8_seat (nI R) se jo vi ask sz pc x1 x2 x3 = some ans ∧ fX9_seat th (nI R) mn vm am w x1 x2 x3 = some (ans, 0) := by
  obtain ⟨hR, hN, hse⟩ := HallP_N H
  obtain ⟨-, -, hrM⟩ := id HM
  obtain ⟨-, -, hrP⟩ := id H
  obtain ⟨a, q, B⟩ := B
  obtain ⟨⟨ha, hask, -⟩, -⟩ := id B
  subst hask
  unfold fX8_seat fX9_seat
  rw [c_hasSeatS hR hse, Option.bind_some, m_noSeatS hR hN (fun r hr => (hrM r hr).2.1), Option.bind_some]
  cases hr : inS R N x1 x2 with
  | false =>
    rw [ib_f, Bool.not_false, ib_t]
    exact ⟨_, rfl, rfl⟩
  | true =>
    obtain ⟨r, s, hrR, hsN, rfl, rfl⟩ := inS_at hR hN hr
    obtain ⟨⟨N1, N9⟩, hmn, ham, hvm⟩ := hrM r hrR
    obtain ⟨-, -, hjo, hvi⟩ := hrP r hrR
    have e9 : (9 : Int32) * nI r + nI s = nI (9 * r + s) := by rw [show (9 : Int32) = nI 9 from rfl, pk_mul, nI_add]
    have e9' : nI r * (9 : Int32) + nI s = nI (9 * r + s) := by rw [show (9 : Int32) = nI 9 from rfl, pk_mul, nI_add, Nat.mul_comm]
    rw [ib_t, Bool.not_true, ib_f]
    by_cases g0 : x3 = 0
    · unfold fX4_viewOf
      rw [if_pos g0, if_pos g0, c_hasSeatS hR hse, hr, Option.bind_some, ib_t, e9', if_neg (nI_in (by omega) (by decide)), e9, if_neg (nI_in (by omega) (by decide)), nI_clamp (by omega), hvi s hsN, hvm s hsN]
      exact ⟨_, rfl, rfl⟩
    rw [if_neg g0, if_neg g0]
    by_cases g1 : x3 = 1
    · unfold fX4_hasAisleAfter
      rw [if_pos g1, if_pos g1, c_hasSeatS hR hse, Option.bind_some, if_neg (nI_in (by omega) (by decide)), nI_clamp (n := r) (by omega), e9, if_neg (nI_in (by omega) (by decide)), nI_clamp (n := 9 * r + s) (by omega), ham s hsN, nI_1]
      by_cases hlast : s + 1 = N r
      · have e : inS R N (nI r) (nI (s + 1)) = false := by
          unfold inS
          rw [nI_clamp (by omega), inQ_nI hrR (by omega), Bool.true_and]
          exact decide_eq_false (fun h => by have := (fa_lt _ _).mp h.2; rw [toInt_nI (by omega), toInt_nI (by omega)] at this; omega)
        rw [e, ib_f, Option.bind_some, i0_t, hl r hrR s hlast, ib_f]
        exact ⟨_, rfl, rfl⟩
      · rw [inS_nI hR hN hrR (show s + 1 < N r by omega), ib_t, hjo]
        have hJ : JA N al r s = !al r s := by
          unfold JA
          rw [decide_eq_true (by omega), Bool.true_and]
        cases hb : al r s with
        | false =>
          rw [hb] at hJ
          rw [if_neg (fun e => by rw [(Mk_one _ (by omega)).mp e] at hJ; cases hJ), Option.bind_some, i0_t, ib_f]
          exact ⟨_, rfl, rfl⟩
        | true =>
          rw [hb] at hJ
          rw [if_pos ((Mk_one _ (by omega)).mpr hJ), Option.bind_some, i1_t, ib_t]
          exact ⟨_, rfl, rfl⟩
    rw [if_neg g1, if_neg g1]
    by_cases g2 : x3 = 2
    · rw [if_pos g2, if_pos g2, c_takerOf hR hN B hrR hsN, Option.bind_some, ix_own, if_neg (nI_in (by omega) (by decide)), nI_clamp (by omega)]
      exact ⟨_, rfl, rfl⟩
    rw [if_neg g2, if_neg g2]
    exact ⟨_, rfl, rfl⟩
theorem m_in05 (x : Int32) : fX9_in x.toInt64 (0 : Int64) (5 : Int64) = some (bI (inR x 0 5)) := m_inR x 0 5
theorem c_paidBy {pd : Nat → Int32} {a p : Nat} (ha : a ≤ 30) (h1 : 1 ≤ p) (h2 : p ≤ a) : fX0_paidBy (nI a) pd (nI p) = some (pd p) := by
  unfold fX0_paidBy
  rw [c_knows1 ha h1 h2, Option.bind_some, i1_t, if_neg (nI_in (by omega) (by decide)), nI_clamp (by omega)]
def sel6 {α : Type} (a0 a1 a2 a3 a4 a5 : α) : Nat → α
  | 0 => a0
  | 1 => a1
  | 2 => a2
  | 3 => a3
  | 4 => a4
  | _ => a5
theorem six {α : Type} (k : Nat) (hk : k ≤ 5) (a0 a1 a2 a3 a4 a5 z : α) : (if nI k = (0 : Int32) then a0 else if nI k = 1 then a1 else if nI k = 2 then a2 else if nI k = 3 then a3 else if nI k = 4 then a4 else if nI k = 5 then a5 else z) = sel6 a0 a1 a2 a3 a4 a5 k := by
  match k, hk with
  | 0, _ => rw [if_pos (show nI 0 = (0 : Int32) from rfl)]; rfl
  | 1, _ => rw [if_neg (show ¬ nI 1 = (0 : Int32) by decide), if_pos (show nI 1 = (1 : Int32) from rfl)]; rfl
  | 2, _ => rw [if_neg (show ¬ nI 2 = (0 : Int32) by decide), if_neg (show ¬ nI 2 = (1 : Int32) by decide), if_pos (show nI 2 = (2 : Int32) from rfl)]; rfl
  | 3, _ => rw [if_neg (show ¬ nI 3 = (0 : Int32) by decide), if_neg (show ¬ nI 3 = (1 : Int32) by decide), if_neg (show ¬ nI 3 = (2 : Int32) by decide), if_pos (show nI 3 = (3 : Int32) from rfl)]; rfl
  | 4, _ => rw [if_neg (show ¬ nI 4 = (0 : Int32) by decide), if_neg (show ¬ nI 4 = (1 : Int32) by decide), if_neg (show ¬ nI 4 = (2 : Int32) by decide), if_neg (show ¬ nI 4 = (3 : Int32) by decide), if_pos (show nI 4 = (4 : Int32) from rfl)]; rfl
  | 5, _ => rw [if_neg (show ¬ nI 5 = (0 : Int32) by decide), if_neg (show ¬ nI 5 = (1 : Int32) by decide), if_neg (show ¬ nI 5 = (2 : Int32) by decide), if_neg (show ¬ nI 5 = (3 : Int32) by decide), if_neg (show ¬ nI 5 = (4 : Int32) by decide), if_pos (show nI 5 = (5 : Int32) from rfl)]; rfl
theorem le5 {k : Nat} (h : k ≤ 5) : k = 0 ∨ k = 1 ∨ k = 2 ∨ k = 3 ∨ k = 4 ∨ k = 5 := by omega
theorem O_party {R : Nat} {N : Nat → Nat} {pr fr sz lm pc pd qu w : Nat → Int32} {ask wai fee tak : Int32} (hR : R ≤ 4) (hN : ∀ r, r < R → N r ≤ 9) (B : BK R N pr fr sz lm pc pd qu ask wai fee tak w) (th x1 x2 : Int32) :
    ∃ ans : Int32, fX8_party ask wai sz lm pc pd qu x1 x2 = some ans ∧ fX9_party th w x1 x2 = some (ans, 0) := by
  obtain ⟨a, q, B⟩ := B
  obtain ⟨⟨ha, hask, hw6⟩, hPN, hPt, -, -, -, -, ⟨-, -, hwai, -⟩, -⟩ := id B
  rw [Nat.add_zero] at hwai
  subst hask
  subst hwai
  unfold fX8_party fX9_party
  rw [c_knowsR, Option.bind_some, m_noParty hw6, Option.bind_some]
  cases hs : inR x1 1 a with
  | false =>
    rw [ib_f, Bool.not_false, ib_t]
    exact ⟨_, rfl, rfl⟩
  | true =>
    obtain ⟨p, p1, pa, rfl⟩ := inR_at (by omega) (by decide) hs
    have hiff := seated_iff hR hN B p1 pa (by omega)
    obtain ⟨hsz, hlm, -, -⟩ := hPN p p1 pa
    obtain ⟨hd, hst⟩ := hPt p p1 pa (by omega)
    rw [ib_t, Bool.not_true, ib_f, c_isSeated ha p1 pa, Option.bind_some, m_in05, Option.bind_some, m_at p1, Option.bind_some, pl2, if_neg (nI_in (by omega) (by decide)), nI_clamp (by omega), show 43 + 6 * p + 2 = 45 + 6 * p by omega, c_isWaiting B p1 pa, c_sizeOf ha p1 pa, c_limitOf ha p1 pa, c_paidBy ha p1 pa, c_placeOf ha p1 pa, hsz, hlm, hd]
    cases hx : inR x2 0 5 with
    | false =>
      have hne : ∀ k, k ≤ 5 → ¬ x2 = nI k := fun k hk e => by
        rw [e, inR_nI (by omega) hk (by decide)] at hx
        cases hx
      rw [ib_f, if_neg (show ¬ x2 = (0 : Int32) from hne 0 (by omega)), if_neg (show ¬ x2 = (1 : Int32) from hne 1 (by omega)), if_neg (show ¬ x2 = (2 : Int32) from hne 2 (by omega)), if_neg (show ¬ x2 = (3 : Int32) from hne 3 (by omega)), if_neg (show ¬ x2 = (4 : Int32) from hne 4 (by omega)), if_neg (show ¬ x2 = (5 : Int32) from hne 5 (by omega))]
      exact ⟨_, rfl, rfl⟩
    | true =>
      obtain ⟨k, -, k5, rfl⟩ := inR_at (by decide) (by decide) hx
      have h70 : fX9_party_70 0 w (nI p) (nI k) = some (w (43 + 6 * p + k), 0) := by
        unfold fX9_party_70
        rw [m_at p1, Option.bind_some, nI_add, if_neg (nI_in (by omega) (by decide)), nI_clamp (by omega)]
      have h50 : ∀ b, fX9_party_50 0 w (nI p) (nI k) (bI b) = (if (k = 3 ∨ k = 4) ∧ b = false then some ((-9 : Int32), 0) else some (w (43 + 6 * p + k), 0)) := fun b => by
        unfold fX9_party_50 fX9_party_61
        rw [h70]
        have q3 : (nI k = (3 : Int32)) ↔ k = 3 := nI_eq (b := 3) (by omega) (by omega)
        have q4 : (nI k = (4 : Int32)) ↔ k = 4 := nI_eq (b := 4) (by omega) (by omega)
        by_cases k3 : k = 3
        · rw [if_pos (q3.mpr k3)]
          cases b with
          | false => rw [ib_f, if_pos ⟨Or.inl k3, rfl⟩]
          | true => rw [ib_t, if_neg (fun h => by cases h.2)]
        · rw [if_neg (fun e => k3 (q3.mp e))]
          by_cases k4 : k = 4
          · rw [if_pos (q4.mpr k4)]
            cases b with
            | false => rw [ib_f, if_pos ⟨Or.inr k4, rfl⟩]
            | true => rw [ib_t, if_neg (fun h => by cases h.2)]
          · rw [if_neg (fun e => k4 (q4.mp e)), if_neg (fun h => by omega)]
      have hm : (if w (45 + 6 * p) = (1 : Int32) then fX9_party_50 0 w (nI p) (nI k) 1 else fX9_party_50 0 w (nI p) (nI k) 0) = fX9_party_50 0 w (nI p) (nI k) (bI (decide (w (45 + 6 * p) = nI 1))) := by
        by_cases h : w (45 + 6 * p) = nI 1
        · rw [if_pos (show w (45 + 6 * p) = (1 : Int32) from h), decide_eq_true h]
          rfl
        · rw [if_neg (show ¬ w (45 + 6 * p) = (1 : Int32) from h), decide_eq_false h]
          rfl
      rw [ib_t, hm, h50, decide_eq_decide.mpr hiff]
      by_cases h1 : w (45 + 6 * p) = nI 1
      · obtain ⟨n, r', s', n1, n6, e1, e2, e3, e4, e5, e6, e7, e8, e9⟩ := seated_at hN B p1 pa (by omega) h1
        have hN' := hN r' e3
        rw [decide_eq_true h1, e7, ib_t, ib_t, ib_t, if_neg (show ¬ ((k = 3 ∨ k = 4) ∧ true = false) from fun h => by cases h.2), six k k5]
        refine ⟨w (43 + 6 * p + k), ?_, rfl⟩
        rcases le5 k5 with rfl | rfl | rfl | rfl | rfl | rfl
        · rfl
        · rw [show 43 + 6 * p + 1 = 44 + 6 * p by omega]; rfl
        · rw [show 43 + 6 * p + 2 = 45 + 6 * p by omega, h1]; rfl
        · rw [show 43 + 6 * p + 3 = 46 + 6 * p by omega, e5]
          show ((fX8_rowOf (nI (10 * r' + s'))).bind _) = _
          rw [c_rowOf (by omega) (by omega)]; rfl
        · rw [show 43 + 6 * p + 4 = 47 + 6 * p by omega, e6]
          show ((fX8_firstOf (nI (10 * r' + s'))).bind _) = _
          rw [c_firstOf (by omega) (by omega)]; rfl
        · rw [show 43 + 6 * p + 5 = 48 + 6 * p by omega]; rfl
      · rw [decide_eq_false h1, ib_f, ib_f, ib_f, six k k5]
        rcases le5 k5 with rfl | rfl | rfl | rfl | rfl | rfl
        · exact ⟨w (43 + 6 * p + 0), rfl, by rw [if_neg (by omega)]⟩
        · exact ⟨w (43 + 6 * p + 1), by rw [show 43 + 6 * p + 1 = 44 + 6 * p by omega]; rfl, by rw [if_neg (by omega)]⟩
        · refine ⟨w (43 + 6 * p + 2), ?_, by rw [if_neg (by omega)]⟩
          rw [show 43 + 6 * p + 2 = 45 + 6 * p by omega]
          rcases hst with ⟨t1, -⟩ | ⟨t1, -⟩ | ⟨t1, -⟩
          · exact absurd t1 h1
          · rw [t1]; rfl
          · rw [t1]; rfl
        · exact ⟨-9, rfl, by rw [if_pos ⟨Or.inl rfl, rfl⟩]⟩
        · exact ⟨-9, rfl, by rw [if_pos ⟨Or.inr rfl, rfl⟩]⟩
        · exact ⟨w (43 + 6 * p + 5), by rw [show 43 + 6 * p + 5 = 48 + 6 * p by omega]; rfl, by rw [if_neg (by omega)]⟩
theorem O_waits {R : Nat} {N : Nat → Nat} {pr fr sz lm pc pd qu w : Nat → Int32} {ask wai fee tak : Int32} (B : BK R N pr fr sz lm pc pd qu ask wai fee tak w) (th x1 : Int32) :
    ∃ ans : Int32, fX8_waits wai qu x1 = some ans ∧ fX9_waits th w x1 = some (ans, 0) := by
  obtain ⟨a, q, B⟩ := B
  obtain ⟨-, -, -, -, -, -, -, ⟨-, hq5, hwai, hw7⟩, ⟨hq1, -⟩, -⟩ := id B
  rw [Nat.add_zero] at hwai
  subst hwai
  unfold fX8_waits fX9_waits
  rw [c7, hw7, m_inQ (by omega), Option.bind_some]
  cases h : inQ x1 q with
  | false =>
    have e : fX0_waitingAt (nI q) qu x1 = some (-9) := by
      unfold fX0_waitingAt
      by_cases h1 : x1 < 0
      · rw [if_pos h1]
      · rw [if_neg h1]
        by_cases h2 : nI q ≤ x1
        · rw [if_pos h2]
        · have := decide_eq_true (p := 0 ≤ x1 ∧ x1 < nI q) ⟨fa_of_nlt h1, fa_of_nle h2⟩
          unfold inQ at h
          rw [h] at this
          cases this
    rw [e, Option.bind_some, ib_f]
    exact ⟨_, rfl, rfl⟩
  | true =>
    obtain ⟨x, hx, rfl⟩ := inQ_at (by omega) h
    rw [c_waitingAt (by omega) hx, Option.bind_some, ib_t, lp8x, if_neg (nI_in (by omega) (by decide)), nI_clamp (by omega), hq1 x hx]
    exact ⟨_, rfl, rfl⟩
def stS (w : Nat → Int32) (k : Nat) : Bool := decide (w (45 + 6 * (k + 1)) = nI 1)
theorem c_seated {R : Nat} {N : Nat → Nat} {a q : Nat} {pr fr sz lm pc pd qu : Nat → Int32} {ask wai fee tak : Int32} {w : Nat → Int32} (hR : R ≤ 4) (hN : ∀ r, r < R → N r ≤ 9) (B : BKg R N a 0 q q 0 pr fr sz lm pc pd qu ask wai fee tak w) : fX0_seated (nI a) pc = some (nI (fb_ct (stS w) a)) := by
  have ha := B.1.1
  have hL : ∀ fu i, i ≤ a → a + 1 ≤ i + fu → fX0_seated_4 fu (nI a) pc (nI (fb_ct (stS w) i)) (nI (i + 1)) = some (nI (fb_ct (stS w) a)) := by
    intro fu
    induction fu with
    | zero => intro i h1 h2; omega
    | succ fu ih =>
      intro i h1 h2
      rw [fX0_seated_4]
      by_cases h : i = a
      · subst h
        rw [if_pos (nI_lt' (by omega) (by omega))]
      · rw [if_neg (show ¬ nI a < nI (i + 1) from nI_nlt (by omega) (by omega)), c_isSeated ha (by omega) (by omega), Option.bind_some, decide_eq_decide.mpr (seated_iff hR hN B (p := i + 1) (by omega) (by omega) (by omega)), nI_1, nI_1]
        have ih2 := ih (i + 1) (by omega) (by omega)
        rw [fb_ct_succ] at ih2
        show (if bI (stS w i) = 0 then _ else _) = _
        cases hb : stS w i with
        | false => rw [hb] at ih2; rw [ib_f]; exact ih2
        | true => rw [hb] at ih2; rw [ib_t]; exact ih2
  exact hL FU 0 (by omega) (by have := FU_ge (k := 50) (by decide); omega)
theorem m_seated {a : Nat} {w : Nat → Int32} (ha : a ≤ 30) (hw6 : w 6 = nI a) : fX9_seated w = some (nI (fb_ct (stS w) a)) := by
  have hL : ∀ fu i, i ≤ a → a + 1 ≤ i + fu → fX9_seated_4 fu w (nI (fb_ct (stS w) i)) (nI (i + 1)) = some (nI (fb_ct (stS w) a)) := by
    intro fu
    induction fu with
    | zero => intro i h1 h2; omega
    | succ fu ih =>
      intro i h1 h2
      rw [fX9_seated_4, c6, hw6]
      by_cases h : i = a
      · subst h
        rw [if_pos (nI_lt' (by omega) (by omega))]
      · rw [if_neg (show ¬ nI a < nI (i + 1) from nI_nlt (by omega) (by omega)), m_at (by omega), Option.bind_some, pl2, if_neg (nI_in (by omega) (by decide)), nI_clamp (by omega), show 43 + 6 * (i + 1) + 2 = 45 + 6 * (i + 1) by omega, pl0, pl1, pl1]
        have ih2 := ih (i + 1) (by omega) (by omega)
        rw [fb_ct_succ] at ih2
        by_cases hb : w (45 + 6 * (i + 1)) = nI 1
        · have e : stS w i = true := decide_eq_true hb
          rw [e] at ih2
          rw [if_pos (show w (45 + 6 * (i + 1)) = (1 : Int32) from hb)]
          exact ih2
        · have e : stS w i = false := decide_eq_false hb
          rw [e] at ih2
          rw [if_neg (show ¬ w (45 + 6 * (i + 1)) = (1 : Int32) from hb)]
          exact ih2
  exact hL FU 0 (by omega) (by have := FU_ge (k := 50) (by decide); omega)
theorem sm_cut {f : Nat → Nat} {R : Nat} (m : Nat) : fb_sm (fun r => if r < R then f r else 0) (R + m) = fb_sm f R := by
  induction m with
  | zero => exact fb_sm_cong (fun k hk => if_pos hk)
  | succ m ih =>
    rw [← Nat.add_assoc, fb_sm_succ, ih, if_neg (by omega)]
    rfl
def frS (N : Nat → Nat) (w : Nat → Int32) (r : Nat) : Nat := fb_ct (frW w r) (N r)
theorem c_freeSeats {R : Nat} {N : Nat → Nat} {a q e c : Nat} {pr fr sz lm pc pd qu : Nat → Int32} {ask wai fee tak : Int32} {w : Nat → Int32} (hR : R ≤ 4) (hN : ∀ r, r < R → N r ≤ 9) (B : BKg R N a e c q 0 pr fr sz lm pc pd qu ask wai fee tak w) : fX0_freeSeats fr = some (nI (fb_sm (frS N w) R)) := by
  obtain ⟨-, -, -, -, -, ⟨hfr, hfr0⟩, -⟩ := B
  have hL : ∀ fu i, i ≤ 4 → 5 ≤ i + fu → fX0_freeSeats_4 fu fr (nI (fb_sm (fun r => if r < R then frS N w r else 0) i)) (nI i) = some (nI (fb_sm (fun r => if r < R then frS N w r else 0) 4)) := by
    intro fu
    induction fu with
    | zero => intro i h1 h2; omega
    | succ fu ih =>
      intro i h1 h2
      rw [fX0_freeSeats_4]
      by_cases h : i = 4
      · subst h
        rw [if_pos (show (4 : Int32) ≤ nI 4 from by decide)]
      · have hb : fJ6_bitCount_0f7a4 (fr i) = some (nI (if i < R then frS N w i else 0)) := by
          by_cases hi : i < R
          · rw [if_pos hi, hfr i hi, bc_Mk]
            have h9 := hN i hi
            have := ct_less (P := frW w i) (N := N i) (9 - N i)
            rw [show N i + (9 - N i) = 9 by omega] at this
            unfold frS
            rw [← this]
            rfl
          · rw [if_neg hi, hfr0 i (by omega) (by omega), ← Mk_0, bc_Mk]
            rfl
        rw [if_neg (show ¬ (4 : Int32) ≤ nI i from nI_ge (b := 4) (by omega) (by decide)), if_neg (nI_in (by omega) (by decide)), nI_clamp (by omega), hb, Option.bind_some, nI_add, nI_1]
        exact ih (i + 1) (by omega) (by omega)
  have h := sm_cut (f := frS N w) (R := R) (4 - R)
  rw [show R + (4 - R) = 4 by omega] at h
  rw [← h]
  exact hL FU 0 (by omega) (by have := FU_ge (k := 50) (by decide); omega)
theorem m_allFree {R : Nat} {N : Nat → Nat} {al : Nat → Nat → Bool} {vw : Nat → Nat → Nat} {mn am vm w : Nat → Int32} (HM : HallM R N al vw mn am vm) : fX9_allFree (nI R) mn w = some (nI (fb_sm (frS N w) R)) := by
  obtain ⟨hR, -, hr⟩ := HM
  have hL : ∀ fu i, i ≤ R → R + 1 ≤ i + fu → fX9_allFree_4 fu (nI R) mn w (nI (fb_sm (frS N w) i)) (nI i) = some (nI (fb_sm (frS N w) R)) := by
    intro fu
    induction fu with
    | zero => intro i h1 h2; omega
    | succ fu ih =>
      intro i h1 h2
      rw [fX9_allFree_4]
      by_cases h : i = R
      · subst h
        rw [if_pos (nI_le (Nat.le_refl _) (by omega))]
      · obtain ⟨⟨N1, N9⟩, hmn, -⟩ := hr i (by omega)
        rw [if_neg (nI_ge (by omega) (by omega)), m_freeIn (by omega) hmn N9, Option.bind_some, m_ones N9, Option.bind_some, nI_add, nI_1]
        exact ih (i + 1) (by omega) (by omega)
  exact hL FU 0 (by omega) (by have := FU_ge (k := 50) (by decide); omega)
theorem c_loneSeats {R : Nat} {N : Nat → Nat} {al : Nat → Nat → Bool} {vw : Nat → Nat → Nat} {se jo vi : Nat → Int32} (H : HallP R N al vw se jo vi) {fr w : Nat → Int32} (hfr : ∀ r, r < R → fr r = Mk (FA N w r)) : fX4_loneSeats (nI R) jo fr = some (nI (fb_sm (loneW N al w) R)) := by
  obtain ⟨hR, -, hr⟩ := H
  have hL : ∀ fu i, i ≤ R → R + 1 ≤ i + fu → fX4_loneSeats_4 fu (nI R) jo fr (nI (fb_sm (loneW N al w) i)) (nI i) = some (nI (fb_sm (loneW N al w) R)) := by
    intro fu
    induction fu with
    | zero => intro i h1 h2; omega
    | succ fu ih =>
      intro i h1 h2
      rw [fX4_loneSeats_4]
      by_cases h : i = R
      · subst h
        rw [if_pos (nI_le (Nat.le_refl _) (by omega))]
      · obtain ⟨⟨N1, N9⟩, hse, hjo, -⟩ := hr i (by omega)
        have hct : fb_ct (loB (FA N w i) (JA N al i)) 9 = loneW N al w i := ct_same (a := al i) (G := frW w i) N9
        rw [if_neg (nI_ge (by omega) (by omega)), c_freeIn (by omega), Option.bind_some, hfr i (by omega), c_loneOf hR (by omega) hjo (fun k hk => by unfold FA; rw [decide_eq_false (by omega)]; rfl), Option.bind_some, bc_Mk, Option.bind_some, hct, nI_add, nI_1]
        exact ih (i + 1) (by omega) (by omega)
  exact hL FU 0 (by omega) (by have := FU_ge (k := 50) (by decide); omega)
theorem O_count {R : Nat} {N : Nat → Nat} {al : Nat → Nat → Bool} {vw : Nat → Nat → Nat} {se jo vi mn am vm : Nat → Int32} (H : HallP R N al vw se jo vi) (HM : HallM R N al vw mn am vm) {pr fr sz lm pc pd qu w : Nat → Int32} {ask wai fee tak : Int32} (B : BK R N pr fr sz lm pc pd qu ask wai fee tak w) (tl dg sn th x1 : Int32) :
    ∃ ans : Int32, fX8_count tl (nI R) jo ask wai fee tak fr pc dg sn x1 = some ans ∧ fX9_count th tl (nI R) dg sn mn am w x1 = some (ans, 0) := by
  obtain ⟨hR, hN, hse⟩ := HallP_N H
  obtain ⟨a, q, B⟩ := B
  obtain ⟨⟨ha, hask, hw6⟩, -, -, -, -, ⟨hfr, -⟩, ⟨hfee, htak⟩, ⟨-, hq5, hwai, hw7⟩, -⟩ := id B
  rw [Nat.add_zero] at hwai
  subst hask
  unfold fX8_count fX9_count fX7_length fX4_rows fX0_asked fX0_waiting fX0_currentFee fX0_takings fX3_acts fX5_number
  rw [c_seated hR hN B, m_seated ha hw6, c_freeSeats hR hN B, m_allFree HM, c_loneSeats H hfr, m_allLone HM, c6, c7, c5, c4, hw6, hw7, hwai, hfee, htak]
  by_cases g0 : x1 = 0
  · rw [if_pos g0, if_pos g0]; exact ⟨_, rfl, rfl⟩
  rw [if_neg g0, if_neg g0]
  by_cases g1 : x1 = 1
  · rw [if_pos g1, if_pos g1]; exact ⟨_, rfl, rfl⟩
  rw [if_neg g1, if_neg g1]
  by_cases g2 : x1 = 2
  · rw [if_pos g2, if_pos g2]; exact ⟨_, rfl, rfl⟩
  rw [if_neg g2, if_neg g2]
  by_cases g3 : x1 = 3
  · rw [if_pos g3, if_pos g3]; exact ⟨_, rfl, rfl⟩
  rw [if_neg g3, if_neg g3]
  by_cases g4 : x1 = 4
  · rw [if_pos g4, if_pos g4]; exact ⟨_, rfl, rfl⟩
  rw [if_neg g4, if_neg g4]
  by_cases g5 : x1 = 5
  · rw [if_pos g5, if_pos g5]; exact ⟨_, rfl, rfl⟩
  rw [if_neg g5, if_neg g5]
  by_cases g6 : x1 = 6
  · rw [if_pos g6, if_pos g6]; exact ⟨_, rfl, rfl⟩
  rw [if_neg g6, if_neg g6]
  by_cases g7 : x1 = 7
  · rw [if_pos g7, if_pos g7]; exact ⟨_, rfl, rfl⟩
  rw [if_neg g7, if_neg g7]
  by_cases g8 : x1 = 8
  · rw [if_pos g8, if_pos g8]; exact ⟨_, rfl, rfl⟩
  rw [if_neg g8, if_neg g8]
  by_cases g9 : x1 = 9
  · rw [if_pos g9, if_pos g9]; exact ⟨_, rfl, rfl⟩
  rw [if_neg g9, if_neg g9]
  by_cases g10 : x1 = 10
  · rw [if_pos g10, if_pos g10]; exact ⟨_, rfl, rfl⟩
  rw [if_neg g10, if_neg g10]
  exact ⟨_, rfl, rfl⟩
theorem m_in02 (x : Int32) : fX9_in x.toInt64 (0 : Int64) (2 : Int64) = some (bI (inR x 0 2)) := m_inR x 0 2
theorem c_rg02 {α : Type} {x : Int32} (a b : α) : (if x < 0 then a else if x ≤ 2 then b else a) = (if bI (inR x 0 2) = 0 then a else b) := c_rgP (lo := 0) (hi := 2) a b
theorem O_best {R : Nat} {N : Nat → Nat} {al : Nat → Nat → Bool} {vw : Nat → Nat → Nat} {se jo vi mn am vm : Nat → Int32} (H : HallP R N al vw se jo vi) (HM : HallM R N al vw mn am vm) {pr fr sz lm pc pd qu w : Nat → Int32} {ask wai fee tak : Int32} (B : BK R N pr fr sz lm pc pd qu ask wai fee tak w) (f1 f2 f3 f4 th h1 h2 h3 x1 x2 x3 : Int32) :
    ∃ (ans g1 g2 g3 g4 k1 k2 k3 : Int32), fX8_best (nI R) se jo vi pr fr f1 f2 f3 f4 x1 x2 x3 = some (ans, g1, g2, g3, g4) ∧ fX9_best th (nI R) h1 h2 h3 mn vm am w x1 x2 x3 = some (ans, 0, k1, k2, k3, w) := by
  obtain ⟨a, q, B⟩ := B
  unfold fX8_best fX9_best
  rw [c_isSizeR, Option.bind_some, m_isAskR, Option.bind_some, m_in02, Option.bind_some, c_rg02]
  cases hs : inR x1 1 6 with
  | false =>
    rw [ib_f, Bool.false_and, ib_f]
    exact ⟨_, _, _, _, _, _, _, _, rfl, rfl⟩
  | true =>
    obtain ⟨n, n1, n6, rfl⟩ := inR_at (by decide) (by decide) hs
    rw [ib_t, Bool.true_and, c_isPriceR, Option.bind_some]
    cases hv : inR x2 1 9 with
    | false =>
      rw [ib_f, ib_f]
      exact ⟨_, _, _, _, _, _, _, _, rfl, rfl⟩
    | true =>
      obtain ⟨l, l1, l9, rfl⟩ := inR_at (by decide) (by decide) hv
      rw [ib_t, ib_t]
      cases hw : inR x3 0 2 with
      | false =>
        rw [ib_f, ib_f]
        exact ⟨_, _, _, _, _, _, _, _, rfl, rfl⟩
      | true =>
        obtain ⟨k, -, k2, rfl⟩ := inR_at (by decide) (by decide) hw
        have hok := bst_ok H B n6 l
        rw [ib_t, ib_t, L_look H B n1 n6 l9, Option.bind_some, L_find HM B n1 n6 l9, Option.bind_some]
        unfold fX1_places fX1_quality repC
        dsimp only
        rw [Option.bind_some, Option.bind_some]
        match k, k2 with
        | 0, _ =>
          rw [if_neg (show ¬ nI 0 = (2 : Int32) by decide), if_pos (show nI 0 = (0 : Int32) from rfl), if_pos (show nI 0 = (0 : Int32) from rfl)]
          by_cases c0 : plI (bst R N al vw w n l) = -9
          · rw [if_pos c0, c0]
            exact ⟨_, _, _, _, _, _, _, _, rfl, rfl⟩
          · rw [if_neg c0]
            exact ⟨_, _, _, _, _, _, _, _, rfl, rfl⟩
        | 1, _ =>
          rw [if_neg (show ¬ nI 1 = (2 : Int32) by decide), if_neg (show ¬ nI 1 = (0 : Int32) by decide), if_neg (show ¬ nI 1 = (0 : Int32) by decide), if_pos (show nI 1 = (1 : Int32) from rfl)]
          unfold fvI
          by_cases c0 : (bst R N al vw w n l).1 = 0
          · rw [if_pos ((plI_9 hok).mpr c0), if_pos c0]
            exact ⟨_, _, _, _, _, _, _, _, rfl, rfl⟩
          · rw [if_neg (fun e => c0 ((plI_9 hok).mp e)), if_neg c0]
            exact ⟨_, _, _, _, _, _, _, _, rfl, rfl⟩
        | 2, _ =>
          rw [if_pos (show nI 2 = (2 : Int32) from rfl), if_neg (show ¬ nI 2 = (0 : Int32) by decide), if_neg (show ¬ nI 2 = (1 : Int32) by decide)]
          exact ⟨_, _, _, _, _, _, _, _, rfl, rfl⟩
