theorem c6 : (6 : Int32).toNatClampNeg = 6 := rfl
theorem c7 : (7 : Int32).toNatClampNeg = 7 := rfl
theorem c5 : (5 : Int32).toNatClampNeg = 5 := rfl
theorem c4 : (4 : Int32).toNatClampNeg = 4 := rfl
theorem grd2 {k n : Nat} (h : k < n) (hn : n < 2 ^ 31) : (nI k < 0 ∨ n ≤ k) ↔ False := ⟨fun q => q.elim (nI_pos (by omega)) (fun z => by omega), False.elim⟩
theorem m_askOn {R : Nat} {N : Nat → Nat} {al : Nat → Nat → Bool} {vw : Nat → Nat → Nat} {mn am vm : Nat → Int32} (HM : HallM R N al vw mn am vm) {a q : Nat} {pr fr sz lm pc pd qu : Nat → Int32} {ask wai fee tak : Int32} {w : Nat → Int32} (B : BKg R N a 0 q q 0 pr fr sz lm pc pd qu ask wai fee tak w) {n l : Nat} (ha : a < 30) (n1 : 1 ≤ n) (n6 : n ≤ 6) (l9 : l ≤ 9) (h1 h2 h3 : Int32) : fX9_askOn (nI R) h1 h2 h3 mn vm am w (nI n) (nI l) = (if nI (bst R N al vw w n l).1 ≤ 0 then some (plI (bst R N al vw w n l), fvI (bst R N al vw w n l), nI (bst R N al vw w n l).1, enqW (newW w (a + 1) (nI n) (nI l)) (a + 1) q) else ((fX9_payOn (plI (bst R N al vw w n l)) (newW w (a + 1) (nI n) (nI l)) (nI (a + 1))).bind fun q16 => some (plI (bst R N al vw w n l), fvI (bst R N al vw w n l), nI (bst R N al vw w n l).1, q16))) := by
  obtain ⟨⟨-, hask, hw6⟩, -, -, -, -, -, -, ⟨hci, him, hwai, hw7⟩, -⟩ := id B
  unfold fX9_askOn
  have hat := m_at (p := a + 1) (by omega)
  simp (disch := omega) only [L_find HM B n1 n6 l9, Option.bind_some, c6, c7, hw6, nI_1, upd_at, hat, pl0, pl1, pl2, pl5, grd, grd2, if_false, nI_clamp, upd_ne, hw7, lp8x]
  unfold enqW newW
  rw [show 43 + 6 * (a + 1) + 1 = 44 + 6 * (a + 1) by omega, show 43 + 6 * (a + 1) + 5 = 48 + 6 * (a + 1) by omega, show 43 + 6 * (a + 1) + 2 = 45 + 6 * (a + 1) by omega, show 43 + 6 * (a + 1) + 0 = 43 + 6 * (a + 1) from rfl]
/-- both sides take a new party in -/
theorem L_admit {R : Nat} {N : Nat → Nat} {al : Nat → Nat → Bool} {vw : Nat → Nat → Nat} {se jo vi mn am vm : Nat → Int32} (H : HallP R N al vw se jo vi) (HM : HallM R N al vw mn am vm) {a q : Nat} {pr fr sz lm pc pd qu : Nat → Int32} {wai fee tak : Int32} {w : Nat → Int32} (B : BKg R N a 0 q q 0 pr fr sz lm pc pd qu (nI a) wai fee tak w) {n l : Nat} (n1 : 1 ≤ n) (n6 : n ≤ 6) (l1 : 1 ≤ l) (l9 : l ≤ 9) (hfull : fullS a q (bst R N al vw w n l) = false) (h1 h2 h3 : Int32) :
    ∃ (wai' tak' : Int32) (fr' pc' pd' qu' w' : Nat → Int32) (q' : Nat),
      fX0_admit (nI a) wai tak pr fr sz lm pc pd qu (nI n) (nI l) (plI (bst R N al vw w n l)) = some (nI (a + 1), nI (a + 1), wai', tak', fr', upd sz (a + 1) (nI n), upd lm (a + 1) (nI l), pc', pd', qu') ∧
      fX9_askOn (nI R) h1 h2 h3 mn vm am w (nI n) (nI l) = some (plI (bst R N al vw w n l), fvI (bst R N al vw w n l), nI (bst R N al vw w n l).1, w') ∧
      BKg R N (a + 1) 0 q' q' 0 pr fr' (upd sz (a + 1) (nI n)) (upd lm (a + 1) (nI l)) pc' pd' qu' (nI (a + 1)) wai' fee tak' w' := by
  obtain ⟨hR, hvw, hrow⟩ := id H
  have hN : ∀ r, r < R → N r ≤ 9 := fun r hr => (hrow r hr).1.2
  obtain ⟨⟨ha, hask, hw6⟩, -, -, -, hpr, -, -, ⟨hci, him, hwai, hw7⟩, -⟩ := id B
  rw [Nat.add_zero] at hwai
  have hok := bst_ok H B n6 l
  have ha29 : a < 30 := by
    unfold fullS at hfull
    by_cases h : 30 ≤ a
    · rw [decide_eq_true h] at hfull; cases hfull
    · omega
  have B1 := L_new hR hN B ha29 n1 n6 l1 l9
  have hadm : fX0_admit (nI a) wai tak pr fr sz lm pc pd qu (nI n) (nI l) (plI (bst R N al vw w n l)) = (if plI (bst R N al vw w n l) = (-9 : Int32) then (if wai < 0 ∨ 5 ≤ wai.toNatClampNeg then none else some (nI (a + 1), nI (a + 1), wai + 1, tak, fr, upd sz (a + 1) (nI n), upd lm (a + 1) (nI l), upd pc (a + 1) (-9), upd pd (a + 1) 0, upd qu wai.toNatClampNeg (nI (a + 1)))) else ((fX0_settle (nI (a + 1)) tak pr fr (upd sz (a + 1) (nI n)) (upd pc (a + 1) (-9)) (upd pd (a + 1) 0) (nI (a + 1)) (plI (bst R N al vw w n l))).bind fun q7 => some (nI (a + 1), nI (a + 1), wai, q7.1, q7.2.1, upd sz (a + 1) (nI n), upd lm (a + 1) (nI l), q7.2.2.1, q7.2.2.2, qu))) := by
    unfold fX0_admit
    rw [hwai, c_isFullFor hok ha (by omega), hfull, Option.bind_some, if_pos (by decide), nI_1, if_neg (nI_in (by omega) (by decide)), if_neg (nI_in (by omega) (by decide)), if_neg (nI_in (by omega) (by decide)), if_neg (nI_in (by omega) (by decide)), nI_clamp (n := a + 1) (by omega)]
  rw [hadm, m_askOn HM B ha29 n1 n6 l9]
  by_cases c0 : (bst R N al vw w n l).1 = 0
  · have hq5 : q < 5 := by
      unfold fullS at hfull
      rw [decide_eq_true c0] at hfull
      by_cases h : 5 ≤ q
      · rw [decide_eq_true h] at hfull
        simp at hfull
      · omega
    rw [if_pos ((plI_9 hok).mpr c0), if_pos ((le0 (by have := hok.1; omega)).mpr c0), hwai, if_neg (nI_in hq5 (by decide)), nI_clamp (by omega), nI_1]
    exact ⟨_, _, _, _, _, _, _, q + 1, rfl, rfl, L_enq hR hN B1 (by omega) (by omega) hq5 (upd_at _ _ _) (upd_at _ _ _) newW_48⟩
  · obtain ⟨r, s, hr, hs, epl, hfree, -⟩ := bst_at c0
    have hN9 := hN r hr
    rw [if_neg (fun e => c0 ((plI_9 hok).mp e)), if_neg (fun e => c0 ((le0 (by have := hok.1; omega)).mp e)), epl, c_settle (by omega) (by omega) (Nat.le_refl _) (by omega) n6 (by omega) (by omega) (upd_at _ _ _), Option.bind_some, m_payOn (by omega) (by omega) (by omega) (by omega) (by omega) newW_43, Option.bind_some]
    have ew : newW w (a + 1) (nI n) (nI l) r = w r := newW_out (by omega) (by omega) (by omega) (by omega)
    have B2 := L_settle hR hN B1 (by omega) (Nat.le_refl _) hr newW_43 hs (fun k hk => by rw [newW_out (by omega) (by omega) (by omega) (by omega)]; exact hfree k hk)
    rw [(hpr r hr).1, ← ew]
    exact ⟨_, _, _, _, _, _, _, q, rfl, rfl, B2⟩
