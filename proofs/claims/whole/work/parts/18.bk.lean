/-! bookings: the class's arrays beside the reference's page w. Parties 1..a; e: a party in between (0: none); the queue: c kept ones at w 8.., m still to look at from w (8 + i) on -/
def St1 (R : Nat) (N : Nat → Nat) (p : Nat) (pc w : Nat → Int32) : Prop := w (45 + 6 * p) = nI 1 ∧ ∃ n r s, w (43 + 6 * p) = nI n ∧ r < R ∧ s + n ≤ N r ∧ w (46 + 6 * p) = nI r ∧ w (47 + 6 * p) = nI s ∧ pc p = nI (10 * r + s) ∧ ∀ k, k < n → w (13 + 9 * r + (s + k)) = nI p
def St0 (p : Nat) (pc w : Nat → Int32) : Prop := w (45 + 6 * p) = nI 0 ∧ pc p = (-9 : Int32) ∧ w (48 + 6 * p) = 0
def St2 (cm p : Nat) (pc qu w : Nat → Int32) : Prop := w (45 + 6 * p) = nI 2 ∧ pc p = (-9 : Int32) ∧ w (48 + 6 * p) = 0 ∧ ∃ x, x < cm ∧ qu x = nI p
def PtN (p : Nat) (sz lm w : Nat → Int32) : Prop := sz p = w (43 + 6 * p) ∧ lm p = w (44 + 6 * p) ∧ (∃ n, 1 ≤ n ∧ n ≤ 6 ∧ w (43 + 6 * p) = nI n) ∧ ∃ l, 1 ≤ l ∧ l ≤ 9 ∧ w (44 + 6 * p) = nI l
def Pt (R : Nat) (N : Nat → Nat) (cm p : Nat) (pc pd qu w : Nat → Int32) : Prop := pd p = w (48 + 6 * p) ∧ (St1 R N p pc w ∨ St0 p pc w ∨ St2 cm p pc qu w)
def Ow (a e r s : Nat) (w : Nat → Int32) : Prop := w (13 + 9 * r + s) = 0 ∨ ∃ p n s0, 1 ≤ p ∧ p ≤ a ∧ p ≠ e ∧ w (13 + 9 * r + s) = nI p ∧ w (45 + 6 * p) = nI 1 ∧ w (46 + 6 * p) = nI r ∧ w (47 + 6 * p) = nI s0 ∧ w (43 + 6 * p) = nI n ∧ s0 ≤ s ∧ s < s0 + n ∧ n ≤ 9
def BKg (R : Nat) (N : Nat → Nat) (a e c i m : Nat) (pr fr sz lm pc pd qu : Nat → Int32) (ask wai fee tak : Int32) (w : Nat → Int32) : Prop :=
  (a ≤ 30 ∧ ask = nI a ∧ w 6 = nI a) ∧
  (∀ p, 1 ≤ p → p ≤ a → PtN p sz lm w) ∧
  (∀ p, 1 ≤ p → p ≤ a → p ≠ e → Pt R N (c + m) p pc pd qu w) ∧
  (∀ r, r < R → ∀ s, s < N r → Ow a e r s w) ∧
  (∀ r, r < R → pr r = w r ∧ ∃ v, 1 ≤ v ∧ v ≤ 9 ∧ w r = nI v) ∧
  ((∀ r, r < R → fr r = Mk (FA N w r)) ∧ ∀ r, R ≤ r → r < 4 → fr r = 0) ∧
  (fee = w 4 ∧ tak = w 5) ∧
  (c ≤ i ∧ i + m ≤ 5 ∧ wai = nI (c + m) ∧ w 7 = nI c) ∧
  ((∀ j, j < c → qu j = w (8 + j)) ∧ ∀ t, t < m → qu (c + t) = w (8 + i + t)) ∧
  (∀ x, x < c + m → ∃ p, 1 ≤ p ∧ p ≤ a ∧ p ≠ e ∧ qu x = nI p ∧ w (45 + 6 * p) = nI 2) ∧
  (∀ x y, x < c + m → y < c + m → qu x = qu y → x = y)
theorem ne0 {p : Nat} (h1 : 1 ≤ p) (h : p < 1000) : ¬ nI p = 0 := fun e => by have := (eq0 (by omega)).mp e; omega
theorem upd_at (f : Nat → Int32) (k : Nat) (x : Int32) : upd f k x k = x := if_pos rfl
theorem upd_ne {f : Nat → Int32} {k j : Nat} {x : Int32} (h : j ≠ k) : upd f k x j = f j := if_neg h
def seatW (w : Nat → Int32) (p r s n : Nat) : Nat → Int32 := layF (upd (upd (upd w (45 + 6 * p) 1) (46 + 6 * p) (nI r)) (47 + 6 * p) (nI s)) r s n (nI p)
theorem seatW_in {w : Nat → Int32} {p r s n j : Nat} (h : 13 + 9 * r + s ≤ j ∧ j < 13 + 9 * r + s + n) : seatW w p r s n j = nI p := if_pos h
theorem seatW_45 {w : Nat → Int32} {p r s n : Nat} (hr : r < 4) (hs : s + n ≤ 9) (hp : 1 ≤ p) : seatW w p r s n (45 + 6 * p) = nI 1 := by
  unfold seatW layF
  rw [if_neg (by omega), upd_ne (by omega), upd_ne (by omega), upd_at]
  rfl
theorem seatW_46 {w : Nat → Int32} {p r s n : Nat} (hr : r < 4) (hs : s + n ≤ 9) (hp : 1 ≤ p) : seatW w p r s n (46 + 6 * p) = nI r := by
  unfold seatW layF
  rw [if_neg (by omega), upd_ne (by omega), upd_at]
theorem seatW_47 {w : Nat → Int32} {p r s n : Nat} (hr : r < 4) (hs : s + n ≤ 9) (hp : 1 ≤ p) : seatW w p r s n (47 + 6 * p) = nI s := by
  unfold seatW layF
  rw [if_neg (by omega), upd_at]
theorem seatW_out {w : Nat → Int32} {p r s n j : Nat} (h : ¬ (13 + 9 * r + s ≤ j ∧ j < 13 + 9 * r + s + n)) (h1 : j ≠ 45 + 6 * p) (h2 : j ≠ 46 + 6 * p) (h3 : j ≠ 47 + 6 * p) : seatW w p r s n j = w j := by
  unfold seatW layF
  rw [if_neg h, upd_ne h3, upd_ne h2, upd_ne h1]
theorem FA_cong {N : Nat → Nat} {w w' : Nat → Int32} {r : Nat} (h : ∀ k, k < N r → frW w r k = frW w' r k) : Mk (FA N w r) = Mk (FA N w' r) := Mk_cong (fun k _ => by
  unfold FA
  by_cases hk : k < N r
  · rw [h k hk]
  · rw [decide_eq_false hk]
    rfl)
/-- a party in between takes free seats -/
theorem L_seat {R : Nat} {N : Nat → Nat} {a p c i m : Nat} {pr fr sz lm pc pd qu : Nat → Int32} {ask wai fee tak : Int32} {w : Nat → Int32} (hR : R ≤ 4) (hN : ∀ r, r < R → N r ≤ 9) (B : BKg R N a p c i m pr fr sz lm pc pd qu ask wai fee tak w) (hp1 : 1 ≤ p) (hpa : p ≤ a) {r s n : Nat} (hr : r < R) (hn : w (43 + 6 * p) = nI n) (hs : s + n ≤ N r) (hfree : ∀ k, k < n → w (13 + 9 * r + (s + k)) = 0) (hpd : pd p = w (48 + 6 * p)) :
    BKg R N a 0 c i m pr (upd fr r (fr r &&& (Mk (spn s n) ^^^ (-1)))) sz lm (upd pc p (nI (10 * r + s))) pd qu ask wai fee tak (seatW w p r s n) := by
  obtain ⟨⟨ha, hask, hw6⟩, hPN, hPt, hOw, hpr, ⟨hfr, hfr0⟩, ⟨hfee, htak⟩, ⟨hci, him, hwai, hw7⟩, ⟨hq1, hq2⟩, hqm, hqd⟩ := B
  have hN9 := hN r hr
  have low : ∀ j, j < 13 → seatW w p r s n j = w j := fun j hj => seatW_out (by omega) (by omega) (by omega) (by omega)
  have oth : ∀ q t, q ≠ p → t < 6 → 1 ≤ q → seatW w p r s n (43 + 6 * q + t) = w (43 + 6 * q + t) := fun q t hq ht h1 => seatW_out (by omega) (by omega) (by omega) (by omega)
  have own : ∀ t, t < 6 → t ≠ 2 → t ≠ 3 → t ≠ 4 → seatW w p r s n (43 + 6 * p + t) = w (43 + 6 * p + t) := fun t ht h2 h3 h4 => seatW_out (by omega) (by omega) (by omega) (by omega)
  have all01 : ∀ q, 1 ≤ q → seatW w p r s n (43 + 6 * q) = w (43 + 6 * q) ∧ seatW w p r s n (44 + 6 * q) = w (44 + 6 * q) ∧ seatW w p r s n (48 + 6 * q) = w (48 + 6 * q) := fun q h1 => ⟨seatW_out (by omega) (by omega) (by omega) (by omega), seatW_out (by omega) (by omega) (by omega) (by omega), seatW_out (by omega) (by omega) (by omega) (by omega)⟩
  have o45 : ∀ q, q ≠ p → 1 ≤ q → seatW w p r s n (45 + 6 * q) = w (45 + 6 * q) ∧ seatW w p r s n (46 + 6 * q) = w (46 + 6 * q) ∧ seatW w p r s n (47 + 6 * q) = w (47 + 6 * q) := fun q hq h1 => ⟨seatW_out (by omega) (by omega) (by omega) (by omega), seatW_out (by omega) (by omega) (by omega) (by omega), seatW_out (by omega) (by omega) (by omega) (by omega)⟩
  refine ⟨⟨ha, hask, by rw [low 6 (by omega)]; exact hw6⟩, fun q h1 h2 => ?_, fun q h1 h2 _ => ?_, fun r' hr' s' hs' => ?_, fun r' hr' => ?_, ⟨fun r' hr' => ?_, fun r' h1 h2 => ?_⟩, ⟨by rw [low 4 (by omega)]; exact hfee, by rw [low 5 (by omega)]; exact htak⟩, ⟨hci, him, hwai, by rw [low 7 (by omega)]; exact hw7⟩, ⟨fun j hj => by rw [low (8 + j) (by omega)]; exact hq1 j hj, fun t ht => by rw [low (8 + i + t) (by omega)]; exact hq2 t ht⟩, fun x hx => ?_, hqd⟩
  · obtain ⟨g1, g2, g3⟩ := all01 q h1
    unfold PtN
    rw [g1, g2]
    exact hPN q h1 h2
  · obtain ⟨g1, g2, g3⟩ := all01 q h1
    by_cases hqp : q = p
    · subst hqp
      refine ⟨by rw [g3]; exact hpd, Or.inl ⟨seatW_45 (by omega) (by omega) h1, n, r, s, by rw [g1]; exact hn, hr, hs, seatW_46 (by omega) (by omega) h1, seatW_47 (by omega) (by omega) h1, upd_at _ _ _, fun k hk => seatW_in (by omega)⟩⟩
    · obtain ⟨f1, f2, f3⟩ := o45 q hqp h1
      obtain ⟨hd, hst⟩ := hPt q h1 h2 hqp
      refine ⟨by rw [g3]; exact hd, ?_⟩
      rcases hst with ⟨t1, n', r', s', t2, t3, t4, t5, t6, t7, t8⟩ | ⟨t1, t2, t3⟩ | ⟨t1, t2, t3, t4⟩
      · refine Or.inl ⟨by rw [f1]; exact t1, n', r', s', by rw [g1]; exact t2, t3, t4, by rw [f2]; exact t5, by rw [f3]; exact t6, by rw [upd_ne hqp]; exact t7, fun k hk => ?_⟩
        have h8 := t8 k hk
        have hN' := hN r' t3
        by_cases hin : 13 + 9 * r + s ≤ 13 + 9 * r' + (s' + k) ∧ 13 + 9 * r' + (s' + k) < 13 + 9 * r + s + n
        · have h9 := hfree (13 + 9 * r' + (s' + k) - (13 + 9 * r + s)) (by omega)
          rw [show 13 + 9 * r + (s + (13 + 9 * r' + (s' + k) - (13 + 9 * r + s))) = 13 + 9 * r' + (s' + k) by omega, h8] at h9
          exact absurd h9 (ne0 h1 (by omega))
        · rw [seatW_out hin (by omega) (by omega) (by omega)]
          exact h8
      · exact Or.inr (Or.inl ⟨by rw [f1]; exact t1, by rw [upd_ne hqp]; exact t2, by rw [g3]; exact t3⟩)
      · exact Or.inr (Or.inr ⟨by rw [f1]; exact t1, by rw [upd_ne hqp]; exact t2, by rw [g3]; exact t3, t4⟩)
  · have hN' := hN r' hr'
    by_cases hin : 13 + 9 * r + s ≤ 13 + 9 * r' + s' ∧ 13 + 9 * r' + s' < 13 + 9 * r + s + n
    · have er : r' = r := by omega
      subst er
      exact Or.inr ⟨p, n, s, hp1, hpa, by omega, seatW_in hin, seatW_45 (by omega) (by omega) hp1, seatW_46 (by omega) (by omega) hp1, seatW_47 (by omega) (by omega) hp1, by rw [(all01 p hp1).1]; exact hn, by omega, by omega, by omega⟩
    · have e0 : seatW w p r s n (13 + 9 * r' + s') = w (13 + 9 * r' + s') := seatW_out hin (by omega) (by omega) (by omega)
      rcases hOw r' hr' s' hs' with h | ⟨q, n', s0, q1, q2, q3, q4, q5, q6, q7, q8, q9, q10⟩
      · exact Or.inl (by rw [e0]; exact h)
      · obtain ⟨f1, f2, f3⟩ := o45 q q3 q1
        exact Or.inr ⟨q, n', s0, q1, q2, by omega, by rw [e0]; exact q4, by rw [f1]; exact q5, by rw [f2]; exact q6, by rw [f3]; exact q7, by rw [(all01 q q1).1]; exact q8, q9, q10⟩
  · rw [low r' (by omega)]
    exact hpr r' hr'
  · have hN' := hN r' hr'
    by_cases er : r' = r
    · subst er
      rw [upd_at, hfr r' hr', Mk_not]
      refine Mk_cong (fun k hk => ?_)
      unfold FA
      by_cases hkN : k < N r'
      · rw [decide_eq_true hkN, Bool.true_and, Bool.true_and]
        unfold frW spn
        by_cases hin : s ≤ k ∧ k < s + n
        · rw [seatW_in (by omega), decide_eq_true hin.1, decide_eq_true hin.2, decide_eq_false (ne0 hp1 (by omega))]
          simp
        · rw [seatW_out (by omega) (by omega) (by omega) (by omega)]
          by_cases h1 : s ≤ k
          · rw [decide_eq_false (show ¬ k < s + n by omega)]
            simp
          · rw [decide_eq_false h1]
            simp
      · rw [decide_eq_false hkN]
        rfl
    · rw [upd_ne er, hfr r' hr']
      refine FA_cong (fun k hk => ?_)
      unfold frW
      rw [seatW_out (by omega) (by omega) (by omega) (by omega)]
  · rw [upd_ne (by omega)]
    exact hfr0 r' h1 h2
  · obtain ⟨q, q1, q2, q3, q4, q5⟩ := hqm x hx
    exact ⟨q, q1, q2, by omega, q4, by rw [(o45 q q3 q1).1]; exact q5⟩
