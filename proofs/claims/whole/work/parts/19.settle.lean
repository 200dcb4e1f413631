/-! seats taken and paid for -/
theorem c_take {fr : Nat → Int32} {r s n : Nat} (hr : r < 4) (hn : n ≤ 6) (hs : s + n ≤ 9) : fX0_take fr (nI (10 * r + s)) (nI n) = some (upd fr r (fr r &&& (Mk (spn s n) ^^^ (-1)))) := by
  unfold fX0_take
  rw [c_rowOf (by omega) (by omega), Option.bind_some, c_isRow1 hr, Option.bind_some, if_neg (by decide), if_neg (nI_in hr (by decide)), c_firstOf (by omega) (by omega), Option.bind_some, c_span hn hs, Option.bind_some, if_neg (nI_in hr (by decide)), nI_clamp (by omega)]
theorem c_clear {fr : Nat → Int32} {r s n : Nat} (hr : r < 4) (hn : n ≤ 6) (hs : s + n ≤ 9) : fX0_clear fr (nI (10 * r + s)) (nI n) = some (upd fr r (fr r ||| Mk (spn s n))) := by
  unfold fX0_clear
  rw [c_rowOf (by omega) (by omega), Option.bind_some, c_isRow1 hr, Option.bind_some, if_neg (by decide), if_neg (nI_in hr (by decide)), c_firstOf (by omega) (by omega), Option.bind_some, c_span hn hs, Option.bind_some, if_neg (nI_in hr (by decide)), nI_clamp (by omega)]
theorem m_at {p : Nat} (h : 1 ≤ p) : fX9_at (nI p) = some (nI (43 + 6 * p)) := by
  unfold fX9_at
  rw [show nI p - 1 = nI (p - 1) from sub1 h, show (6 : Int32) = nI 6 from rfl, pk_mul, show (49 : Int32) = nI 49 from rfl, nI_add]
  congr 2
  omega
theorem pl0 (a : Nat) : nI a + 0 = nI (a + 0) := by rw [show (0 : Int32) = nI 0 from rfl, nI_add]
theorem pl1 (a : Nat) : nI a + 1 = nI (a + 1) := by rw [show (1 : Int32) = nI 1 from rfl, nI_add]
theorem pl2 (a : Nat) : nI a + 2 = nI (a + 2) := by rw [show (2 : Int32) = nI 2 from rfl, nI_add]
theorem pl3 (a : Nat) : nI a + 3 = nI (a + 3) := by rw [show (3 : Int32) = nI 3 from rfl, nI_add]
theorem pl4 (a : Nat) : nI a + 4 = nI (a + 4) := by rw [show (4 : Int32) = nI 4 from rfl, nI_add]
theorem pl5 (a : Nat) : nI a + 5 = nI (a + 5) := by rw [show (5 : Int32) = nI 5 from rfl, nI_add]
theorem pl6 (a : Nat) : nI a + 6 = nI (a + 6) := by rw [show (6 : Int32) = nI 6 from rfl, nI_add]
theorem pl7 (a : Nat) : nI a + 7 = nI (a + 7) := by rw [show (7 : Int32) = nI 7 from rfl, nI_add]
theorem pl8 (a : Nat) : nI a + 8 = nI (a + 8) := by rw [show (8 : Int32) = nI 8 from rfl, nI_add]
theorem lp0x (a : Nat) : 0 + nI a = nI (0 + a) := by rw [show (0 : Int32) = nI 0 from rfl, nI_add]
theorem lp8x (a : Nat) : 8 + nI a = nI (8 + a) := by rw [show (8 : Int32) = nI 8 from rfl, nI_add]
theorem m_seatOn {w : Nat → Int32} {p r s n : Nat} (hp : 1 ≤ p) (hp3 : p ≤ 30) (hr : r < 4) (hs : s + n ≤ 9) (hs9 : s < 9) (hn : w (43 + 6 * p) = nI n) : fX9_seatOn (nI (10 * r + s)) w (nI p) = some (seatW w p r s n) := by
  unfold fX9_seatOn
  rw [m_at hp, Option.bind_some, pl2, pl3, pl4, pl0, if_neg (nI_in (by omega) (by decide)), if_neg (nI_in (by omega) (by decide)), if_neg (nI_in (by omega) (by decide)), if_neg (nI_in (by omega) (by decide)), nI_clamp (by omega), nI_clamp (by omega), nI_clamp (by omega), nI_clamp (by omega), rem10 (by omega) (by omega), div10 (by omega) (by omega), show 43 + 6 * p + 0 = 43 + 6 * p from rfl, upd_ne (by omega), upd_ne (by omega), upd_ne (by omega), hn, m_lay hr hs, Option.bind_some, show 43 + 6 * p + 2 = 45 + 6 * p by omega, show 43 + 6 * p + 3 = 46 + 6 * p by omega, show 43 + 6 * p + 4 = 47 + 6 * p by omega]
  rfl
def payW (w : Nat → Int32) (p r s n : Nat) (v : Int32) : Nat → Int32 := upd (upd (seatW w p r s n) (48 + 6 * p) v) 5 (w 5 + v)
theorem m_payOn {w : Nat → Int32} {p r s n : Nat} (hp : 1 ≤ p) (hp3 : p ≤ 30) (hr : r < 4) (hs : s + n ≤ 9) (hs9 : s < 9) (hn : w (43 + 6 * p) = nI n) : fX9_payOn (nI (10 * r + s)) w (nI p) = some (payW w p r s n (nI n * w r)) := by
  unfold fX9_payOn
  have e1 : seatW w p r s n (43 + 6 * p) = nI n := by rw [seatW_out (by omega) (by omega) (by omega) (by omega), hn]
  have e2 : seatW w p r s n r = w r := seatW_out (by omega) (by omega) (by omega) (by omega)
  have e3 : seatW w p r s n 5 = w 5 := seatW_out (by omega) (by omega) (by omega) (by omega)
  rw [m_seatOn hp hp3 hr hs hs9 hn, Option.bind_some, m_at hp, Option.bind_some, pl0, pl5, div10 (by omega) (by omega), lp0x, Nat.zero_add, if_neg (nI_in (by omega) (by decide)), if_neg (nI_in (by omega) (by decide)), if_neg (nI_in (by omega) (by decide)), if_neg (nI_in (by omega) (by decide)), nI_clamp (by omega), nI_clamp (by omega), nI_clamp (by omega), show 43 + 6 * p + 0 = 43 + 6 * p from rfl, show (5 : Int32).toNatClampNeg = 5 from rfl, upd_at, upd_ne (show 5 ≠ 43 + 6 * p + 5 by omega), e1, e2, e3, show 43 + 6 * p + 5 = 48 + 6 * p by omega]
  rfl
theorem c_knows {a p : Nat} (ha : a ≤ 30) (hp : p < 2 ^ 31) : fX0_knows (nI a) (nI p) = some (bI (decide (1 ≤ p ∧ p ≤ a))) := by
  unfold fX0_knows
  by_cases h1 : 1 ≤ p
  · rw [if_neg (show ¬ nI p < 1 from nI_nlt (b := 1) h1 hp)]
    by_cases h2 : p ≤ a
    · rw [if_neg (nI_nlt h2 (by omega)), decide_eq_true ⟨h1, h2⟩]
      rfl
    · rw [if_pos (nI_lt (by omega) hp), decide_eq_false (fun z => h2 z.2)]
      rfl
  · rw [if_pos (show nI p < 1 from nI_lt (b := 1) (by omega) (by decide)), decide_eq_false (fun z => h1 z.1)]
    rfl
theorem c_knows1 {a p : Nat} (ha : a ≤ 30) (h1 : 1 ≤ p) (h2 : p ≤ a) : fX0_knows (nI a) (nI p) = some 1 := by
  rw [c_knows ha (by omega), decide_eq_true ⟨h1, h2⟩]
  rfl
theorem c_settle {a p r s n : Nat} {tak : Int32} {pr fr sz pc pd : Nat → Int32} (ha : a ≤ 30) (h1 : 1 ≤ p) (h2 : p ≤ a) (hr : r < 4) (hn : n ≤ 6) (hs : s + n ≤ 9) (hs9 : s < 9) (hsz : sz p = nI n) : fX0_settle (nI a) tak pr fr sz pc pd (nI p) (nI (10 * r + s)) = some (tak + nI n * pr r, upd fr r (fr r &&& (Mk (spn s n) ^^^ (-1))), upd pc p (nI (10 * r + s)), upd pd p (nI n * pr r)) := by
  unfold fX0_settle
  rw [c_knows1 ha h1 h2, Option.bind_some, if_neg (by decide), if_neg (nI_in (by omega) (by decide)), if_neg (nI_in (by omega) (by decide)), c_rowOf (by omega) (by omega), Option.bind_some, c_priceOf hr, Option.bind_some, if_neg (nI_in (by omega) (by decide)), if_neg (nI_in (by omega) (by decide)), if_neg (nI_in (by omega) (by decide)), nI_clamp (by omega), hsz, c_take hr hn hs, Option.bind_some, upd_at]
/-- what a party in between paid is noted -/
theorem L_pay {R : Nat} {N : Nat → Nat} {a p c i m : Nat} {pr fr sz lm pc pd qu : Nat → Int32} {ask wai fee tak : Int32} {w : Nat → Int32} (hR : R ≤ 4) (hN : ∀ r, r < R → N r ≤ 9) (B : BKg R N a p c i m pr fr sz lm pc pd qu ask wai fee tak w) (hp1 : 1 ≤ p) (v : Int32) :
    BKg R N a p c i m pr fr sz lm pc (upd pd p v) qu ask wai fee (tak + v) (upd (upd w (48 + 6 * p) v) 5 (w 5 + v)) := by
  obtain ⟨⟨ha, hask, hw6⟩, hPN, hPt, hOw, hpr, ⟨hfr, hfr0⟩, ⟨hfee, htak⟩, ⟨hci, him, hwai, hw7⟩, ⟨hq1, hq2⟩, hqm, hqd⟩ := B
  have out : ∀ j, j ≠ 5 → j ≠ 48 + 6 * p → upd (upd w (48 + 6 * p) v) 5 (w 5 + v) j = w j := fun j h1 h2 => by rw [upd_ne h1, upd_ne h2]
  refine ⟨⟨ha, hask, by rw [out 6 (by omega) (by omega)]; exact hw6⟩, fun q h1 h2 => ?_, fun q h1 h2 h3 => ?_, fun r' hr' s' hs' => ?_, fun r' hr' => by rw [out r' (by omega) (by omega)]; exact hpr r' hr', ⟨fun r' hr' => ?_, hfr0⟩, ⟨by rw [out 4 (by omega) (by omega)]; exact hfee, by rw [upd_at, htak]⟩, ⟨hci, him, hwai, by rw [out 7 (by omega) (by omega)]; exact hw7⟩, ⟨fun j hj => by rw [out (8 + j) (by omega) (by omega)]; exact hq1 j hj, fun t ht => by rw [out (8 + i + t) (by omega) (by omega)]; exact hq2 t ht⟩, fun x hx => ?_, hqd⟩
  · unfold PtN
    rw [out (43 + 6 * q) (by omega) (by omega), out (44 + 6 * q) (by omega) (by omega)]
    exact hPN q h1 h2
  · obtain ⟨hd, hst⟩ := hPt q h1 h2 h3
    refine ⟨by rw [upd_ne h3, out (48 + 6 * q) (by omega) (by omega)]; exact hd, ?_⟩
    rcases hst with ⟨t1, n', r', s', t2, t3, t4, t5, t6, t7, t8⟩ | ⟨t1, t2, t3⟩ | ⟨t1, t2, t3, t4⟩
    · have hN' := hN r' t3
      exact Or.inl ⟨by rw [out _ (by omega) (by omega)]; exact t1, n', r', s', by rw [out _ (by omega) (by omega)]; exact t2, t3, t4, by rw [out _ (by omega) (by omega)]; exact t5, by rw [out _ (by omega) (by omega)]; exact t6, t7, fun k hk => by rw [out _ (by omega) (by omega)]; exact t8 k hk⟩
    · exact Or.inr (Or.inl ⟨by rw [out _ (by omega) (by omega)]; exact t1, t2, by rw [out _ (by omega) (by omega)]; exact t3⟩)
    · exact Or.inr (Or.inr ⟨by rw [out _ (by omega) (by omega)]; exact t1, t2, by rw [out _ (by omega) (by omega)]; exact t3, t4⟩)
  · have hN' := hN r' hr'
    have e0 : upd (upd w (48 + 6 * p) v) 5 (w 5 + v) (13 + 9 * r' + s') = w (13 + 9 * r' + s') := out _ (by omega) (by omega)
    rcases hOw r' hr' s' hs' with h | ⟨q, n', s0, q1, q2, q3, q4, q5, q6, q7, q8, q9, q10⟩
    · exact Or.inl (by rw [e0]; exact h)
    · exact Or.inr ⟨q, n', s0, q1, q2, q3, by rw [e0]; exact q4, by rw [out _ (by omega) (by omega)]; exact q5, by rw [out _ (by omega) (by omega)]; exact q6, by rw [out _ (by omega) (by omega)]; exact q7, by rw [out _ (by omega) (by omega)]; exact q8, q9, q10⟩
  · have hN' := hN r' hr'
    rw [hfr r' hr']
    refine FA_cong (fun k hk => ?_)
    unfold frW
    rw [out _ (by omega) (by omega)]
  · obtain ⟨q, q1, q2, q3, q4, q5⟩ := hqm x hx
    exact ⟨q, q1, q2, q3, q4, by rw [out _ (by omega) (by omega)]; exact q5⟩
theorem payW_seat {w : Nat → Int32} {p r s n : Nat} {v : Int32} (hp : 1 ≤ p) (hr : r < 4) (hs : s + n ≤ 9) : seatW (upd (upd w (48 + 6 * p) v) 5 (w 5 + v)) p r s n = payW w p r s n v := by
  funext j
  unfold payW
  by_cases h5 : j = 5
  · subst h5
    rw [upd_at, seatW_out (by omega) (by omega) (by omega) (by omega), upd_at]
  · rw [upd_ne h5]
    by_cases h8 : j = 48 + 6 * p
    · subst h8
      rw [upd_at, seatW_out (by omega) (by omega) (by omega) (by omega), upd_ne h5, upd_at]
    · rw [upd_ne h8]
      unfold seatW layF
      by_cases hin : 13 + 9 * r + s ≤ j ∧ j < 13 + 9 * r + s + n
      · rw [if_pos hin, if_pos hin]
      · rw [if_neg hin, if_neg hin]
        unfold upd
        simp only [h5, h8, if_false]
/-- a party in between is seated and pays -/
theorem L_settle {R : Nat} {N : Nat → Nat} {a p c i m : Nat} {pr fr sz lm pc pd qu : Nat → Int32} {ask wai fee tak : Int32} {w : Nat → Int32} (hR : R ≤ 4) (hN : ∀ r, r < R → N r ≤ 9) (B : BKg R N a p c i m pr fr sz lm pc pd qu ask wai fee tak w) (hp1 : 1 ≤ p) (hpa : p ≤ a) {r s n : Nat} (hr : r < R) (hn : w (43 + 6 * p) = nI n) (hs : s + n ≤ N r) (hfree : ∀ k, k < n → w (13 + 9 * r + (s + k)) = 0) :
    BKg R N a 0 c i m pr (upd fr r (fr r &&& (Mk (spn s n) ^^^ (-1)))) sz lm (upd pc p (nI (10 * r + s))) (upd pd p (nI n * w r)) qu ask wai fee (tak + nI n * w r) (payW w p r s n (nI n * w r)) := by
  have hN9 := hN r hr
  have B2 := L_pay hR hN B hp1 (nI n * w r)
  have B3 := L_seat hR hN B2 hp1 hpa hr (by rw [upd_ne (by omega), upd_ne (by omega)]; exact hn) hs (fun k hk => by rw [upd_ne (by omega), upd_ne (by omega)]; exact hfree k hk) (by rw [upd_at, upd_ne (by omega), upd_at])
  rw [payW_seat hp1 (by omega) (by omega)] at B3
  exact B3
