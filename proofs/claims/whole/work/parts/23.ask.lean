/-! a new party -/
def newW (w : Nat → Int32) (p : Nat) (n l : Int32) : Nat → Int32 := upd (upd (upd (upd w 6 (nI p)) (43 + 6 * p) n) (44 + 6 * p) l) (48 + 6 * p) 0
theorem newW_out {w : Nat → Int32} {p j : Nat} {n l : Int32} (h6 : j ≠ 6) (h1 : j ≠ 43 + 6 * p) (h2 : j ≠ 44 + 6 * p) (h3 : j ≠ 48 + 6 * p) : newW w p n l j = w j := by
  unfold newW
  rw [upd_ne h3, upd_ne h2, upd_ne h1, upd_ne h6]
theorem newW_43 {w : Nat → Int32} {p : Nat} {n l : Int32} : newW w p n l (43 + 6 * p) = n := by
  unfold newW
  rw [upd_ne (by omega), upd_ne (by omega), upd_at]
theorem newW_44 {w : Nat → Int32} {p : Nat} {n l : Int32} : newW w p n l (44 + 6 * p) = l := by
  unfold newW
  rw [upd_ne (by omega), upd_at]
theorem newW_48 {w : Nat → Int32} {p : Nat} {n l : Int32} : newW w p n l (48 + 6 * p) = 0 := by
  unfold newW
  rw [upd_at]
theorem newW_6 {w : Nat → Int32} {p : Nat} {n l : Int32} : newW w p n l 6 = nI p := by
  unfold newW
  rw [upd_ne (by omega), upd_ne (by omega), upd_ne (by omega), upd_at]
/-- a new party, in between -/
theorem L_new {R : Nat} {N : Nat → Nat} {a q : Nat} {pr fr sz lm pc pd qu : Nat → Int32} {ask wai fee tak : Int32} {w : Nat → Int32} (hR : R ≤ 4) (hN : ∀ r, r < R → N r ≤ 9) (B : BKg R N a 0 q q 0 pr fr sz lm pc pd qu ask wai fee tak w) (ha29 : a < 30) {n l : Nat} (n1 : 1 ≤ n) (n6 : n ≤ 6) (l1 : 1 ≤ l) (l9 : l ≤ 9) :
    BKg R N (a + 1) (a + 1) q q 0 pr fr (upd sz (a + 1) (nI n)) (upd lm (a + 1) (nI l)) (upd pc (a + 1) (-9)) (upd pd (a + 1) 0) qu (nI (a + 1)) wai fee tak (newW w (a + 1) (nI n) (nI l)) := by
  obtain ⟨⟨ha, hask, hw6⟩, hPN, hPt, hOw, hpr, ⟨hfr, hfr0⟩, ⟨hfee, htak⟩, ⟨hci, him, hwai, hw7⟩, ⟨hq1, hq2⟩, hqm, hqd⟩ := B
  have low : ∀ j, j < 49 → j ≠ 6 → newW w (a + 1) (nI n) (nI l) j = w j := fun j h1 h2 => newW_out h2 (by omega) (by omega) (by omega)
  have oth : ∀ x, 1 ≤ x → x ≤ a → ∀ t, t < 6 → newW w (a + 1) (nI n) (nI l) (43 + t + 6 * x) = w (43 + t + 6 * x) := fun x h1 h2 t ht => newW_out (by omega) (by omega) (by omega) (by omega)
  refine ⟨⟨by omega, rfl, newW_6⟩, fun x h1 h2 => ?_, fun x h1 h2 h3 => ?_, fun r' hr' s' hs' => ?_, fun r' hr' => by rw [low r' (by omega) (by omega)]; exact hpr r' hr', ⟨fun r' hr' => ?_, hfr0⟩, ⟨by rw [low 4 (by omega) (by omega)]; exact hfee, by rw [low 5 (by omega) (by omega)]; exact htak⟩, ⟨hci, him, hwai, by rw [low 7 (by omega) (by omega)]; exact hw7⟩, ⟨fun j hj => by rw [low (8 + j) (by omega) (by omega)]; exact hq1 j hj, fun t ht => by omega⟩, fun x hx => ?_, hqd⟩
  · by_cases hx : x = a + 1
    · subst hx
      exact ⟨by rw [upd_at, newW_43], by rw [upd_at, newW_44], ⟨n, n1, n6, newW_43⟩, ⟨l, l1, l9, newW_44⟩⟩
    · unfold PtN
      rw [upd_ne hx, upd_ne hx, oth x h1 (by omega) 0 (by omega), oth x h1 (by omega) 1 (by omega)]
      exact hPN x h1 (by omega)
  · obtain ⟨hd, hst⟩ := hPt x h1 (by omega) (by omega)
    have o := oth x h1 (by omega)
    refine ⟨by rw [upd_ne h3, o 5 (by omega)]; exact hd, ?_⟩
    rcases hst with ⟨t1, n', r', s', t2, t3, t4, t5, t6, t7, t8⟩ | ⟨t1, t2, t3⟩ | ⟨t1, t2, t3, t4⟩
    · have hN' := hN r' t3
      exact Or.inl ⟨by rw [o 2 (by omega)]; exact t1, n', r', s', by rw [o 0 (by omega)]; exact t2, t3, t4, by rw [o 3 (by omega)]; exact t5, by rw [o 4 (by omega)]; exact t6, by rw [upd_ne h3]; exact t7, fun k hk => by rw [low _ (by omega) (by omega)]; exact t8 k hk⟩
    · exact Or.inr (Or.inl ⟨by rw [o 2 (by omega)]; exact t1, by rw [upd_ne h3]; exact t2, by rw [o 5 (by omega)]; exact t3⟩)
    · exact Or.inr (Or.inr ⟨by rw [o 2 (by omega)]; exact t1, by rw [upd_ne h3]; exact t2, by rw [o 5 (by omega)]; exact t3, t4⟩)
  · have hN' := hN r' hr'
    have e0 := low (13 + 9 * r' + s') (by omega) (by omega)
    rcases hOw r' hr' s' hs' with h | ⟨x, n', s0, q1, q2, q3, q4, q5, q6, q7, q8, q9, q10⟩
    · exact Or.inl (by rw [e0]; exact h)
    · have o := oth x q1 q2
      exact Or.inr ⟨x, n', s0, q1, by omega, by omega, by rw [e0]; exact q4, by rw [o 2 (by omega)]; exact q5, by rw [o 3 (by omega)]; exact q6, by rw [o 4 (by omega)]; exact q7, by rw [o 0 (by omega)]; exact q8, q9, q10⟩
  · have hN' := hN r' hr'
    rw [hfr r' hr']
    refine FA_cong (fun k hk => ?_)
    unfold frW
    rw [low _ (by omega) (by omega)]
  · obtain ⟨x', q1, q2, q3, q4, q5⟩ := hqm x hx
    exact ⟨x', q1, by omega, by omega, q4, by rw [oth x' q1 q2 2 (by omega)]; exact q5⟩
def enqW (w : Nat → Int32) (p q : Nat) : Nat → Int32 := upd (upd (upd w (45 + 6 * p) 2) (8 + q) (nI p)) 7 (nI (q + 1))
theorem enqW_out {w : Nat → Int32} {p q j : Nat} (h6 : j ≠ 7) (h1 : j ≠ 8 + q) (h2 : j ≠ 45 + 6 * p) : enqW w p q j = w j := by
  unfold enqW
  rw [upd_ne h6, upd_ne h1, upd_ne h2]
/-- a party in between joins the queue -/
theorem L_enq {R : Nat} {N : Nat → Nat} {a p q : Nat} {pr fr sz lm pc pd qu : Nat → Int32} {ask wai fee tak : Int32} {w : Nat → Int32} (hR : R ≤ 4) (hN : ∀ r, r < R → N r ≤ 9) (B : BKg R N a p q q 0 pr fr sz lm pc pd qu ask wai fee tak w) (hp1 : 1 ≤ p) (hpa : p ≤ a) (hq5 : q < 5) (hpc : pc p = (-9 : Int32)) (hpd : pd p = 0) (h48 : w (48 + 6 * p) = 0) :
    BKg R N a 0 (q + 1) (q + 1) 0 pr fr sz lm pc pd (upd qu q (nI p)) ask (nI (q + 1)) fee tak (enqW w p q) := by
  obtain ⟨⟨ha, hask, hw6⟩, hPN, hPt, hOw, hpr, ⟨hfr, hfr0⟩, ⟨hfee, htak⟩, ⟨hci, him, hwai, hw7⟩, ⟨hq1, hq2⟩, hqm, hqd⟩ := B
  have low : ∀ j, j < 7 → enqW w p q j = w j := fun j h1 => enqW_out (by omega) (by omega) (by omega)
  have mid : ∀ j, 13 ≤ j → j ≠ 45 + 6 * p → enqW w p q j = w j := fun j h1 h2 => enqW_out (by omega) (by omega) h2
  have e45 : enqW w p q (45 + 6 * p) = nI 2 := by
    unfold enqW
    rw [upd_ne (by omega), upd_ne (by omega), upd_at]
    rfl
  refine ⟨⟨ha, hask, by rw [low 6 (by omega)]; exact hw6⟩, fun x h1 h2 => ?_, fun x h1 h2 h3 => ?_, fun r' hr' s' hs' => ?_, fun r' hr' => by rw [low r' (by omega)]; exact hpr r' hr', ⟨fun r' hr' => ?_, hfr0⟩, ⟨by rw [low 4 (by omega)]; exact hfee, by rw [low 5 (by omega)]; exact htak⟩, ⟨by omega, by omega, rfl, by unfold enqW; rw [upd_at]⟩, ⟨fun j hj => ?_, fun t ht => by omega⟩, fun x hx => ?_, fun x y hx hy e => ?_⟩
  · unfold PtN
    rw [mid _ (by omega) (by omega), mid _ (by omega) (by omega)]
    exact hPN x h1 h2
  · by_cases hxp : x = p
    · subst hxp
      exact ⟨by rw [hpd, mid _ (by omega) (by omega), h48], Or.inr (Or.inr ⟨e45, hpc, by rw [mid _ (by omega) (by omega)]; exact h48, q, by omega, upd_at _ _ _⟩)⟩
    · obtain ⟨hd, hst⟩ := hPt x h1 h2 hxp
      refine ⟨by rw [mid _ (by omega) (by omega)]; exact hd, ?_⟩
      rcases hst with ⟨t1, n', r', s', t2, t3, t4, t5, t6, t7, t8⟩ | ⟨t1, t2, t3⟩ | ⟨t1, t2, t3, y, hy, t4⟩
      · have hN' := hN r' t3
        exact Or.inl ⟨by rw [mid _ (by omega) (by omega)]; exact t1, n', r', s', by rw [mid _ (by omega) (by omega)]; exact t2, t3, t4, by rw [mid _ (by omega) (by omega)]; exact t5, by rw [mid _ (by omega) (by omega)]; exact t6, t7, fun k hk => by rw [mid _ (by omega) (by omega)]; exact t8 k hk⟩
      · exact Or.inr (Or.inl ⟨by rw [mid _ (by omega) (by omega)]; exact t1, t2, by rw [mid _ (by omega) (by omega)]; exact t3⟩)
      · exact Or.inr (Or.inr ⟨by rw [mid _ (by omega) (by omega)]; exact t1, t2, by rw [mid _ (by omega) (by omega)]; exact t3, y, by omega, by rw [upd_ne (by omega)]; exact t4⟩)
  · have hN' := hN r' hr'
    have e0 := mid (13 + 9 * r' + s') (by omega) (by omega)
    rcases hOw r' hr' s' hs' with h | ⟨x, n', s0, q1, q2, q3, q4, q5, q6, q7, q8, q9, q10⟩
    · exact Or.inl (by rw [e0]; exact h)
    · exact Or.inr ⟨x, n', s0, q1, q2, by omega, by rw [e0]; exact q4, by rw [mid _ (by omega) (by omega)]; exact q5, by rw [mid _ (by omega) (by omega)]; exact q6, by rw [mid _ (by omega) (by omega)]; exact q7, by rw [mid _ (by omega) (by omega)]; exact q8, q9, q10⟩
  · have hN' := hN r' hr'
    rw [hfr r' hr']
    refine FA_cong (fun k hk => ?_)
    unfold frW
    rw [mid _ (by omega) (by omega)]
  · by_cases hjq : j = q
    · subst hjq
      unfold enqW
      rw [upd_at, upd_ne (by omega), upd_at]
    · rw [upd_ne hjq, enqW_out (by omega) (by omega) (by omega)]
      exact hq1 j (by omega)
  · by_cases hxq : x = q
    · subst hxq
      exact ⟨p, hp1, hpa, by omega, upd_at _ _ _, e45⟩
    · obtain ⟨x', q1, q2, q3, q4, q5⟩ := hqm x (by omega)
      exact ⟨x', q1, q2, by omega, by rw [upd_ne hxq]; exact q4, by rw [mid _ (by omega) (by omega)]; exact q5⟩
  · have nq : ∀ z, z < q → ¬ qu z = nI p := fun z hz e => by
      obtain ⟨x', q1, q2, q3, q4, q5⟩ := hqm z (by omega)
      rw [q4] at e
      exact q3 (nI_inj (by omega) (by omega) e)
    by_cases hxq : x = q
    · by_cases hyq : y = q
      · omega
      · rw [hxq, upd_at, upd_ne hyq] at e
        exact absurd e.symm (nq y (by omega))
    · by_cases hyq : y = q
      · rw [hyq, upd_at, upd_ne hxq] at e
        exact absurd e (nq x (by omega))
      · rw [upd_ne hxq, upd_ne hyq] at e
        exact hqd x y (by omega) (by omega) e
def fullS (a q : Nat) (A : Acc) : Bool := decide (30 ≤ a) || (decide (A.1 = 0) && decide (5 ≤ q))
theorem c_isFullFor {a q B : Nat} {A : Acc} (hA : accOk A B) (ha : a ≤ 30) (hq : q ≤ 5) : fX0_isFullFor (nI a) (nI q) (plI A) = some (bI (fullS a q A)) := by
  unfold fX0_isFullFor fullS
  by_cases h1 : 30 ≤ a
  · rw [if_pos (show (30 : Int32) ≤ nI a from nI_le (a := 30) h1 (by omega)), decide_eq_true h1]
    rfl
  · rw [if_neg (show ¬ (30 : Int32) ≤ nI a from nI_ge (b := 30) (by omega) (by decide)), decide_eq_false h1]
    by_cases h2 : A.1 = 0
    · rw [if_pos ((plI_9 hA).mpr h2), decide_eq_true h2]
      by_cases h3 : 5 ≤ q
      · rw [if_neg (show ¬ nI q < (5 : Int32) from nI_nlt (b := 5) h3 (by omega)), decide_eq_true h3]
        rfl
      · rw [if_pos (show nI q < (5 : Int32) from nI_lt (b := 5) (by omega) (by decide)), decide_eq_false h3]
        rfl
    · rw [if_neg (fun e => h2 ((plI_9 hA).mp e)), decide_eq_false h2]
      rfl
theorem m_mayAsk {R : Nat} {N : Nat → Nat} {al : Nat → Nat → Bool} {vw : Nat → Nat → Nat} {mn am vm : Nat → Int32} (HM : HallM R N al vw mn am vm) {a q : Nat} {pr fr sz lm pc pd qu : Nat → Int32} {ask wai fee tak : Int32} {w : Nat → Int32} (B : BKg R N a 0 q q 0 pr fr sz lm pc pd qu ask wai fee tak w) {n l : Nat} (n1 : 1 ≤ n) (n6 : n ≤ 6) (l9 : l ≤ 9) (hA : (bst R N al vw w n l).1 ≤ 36) (h1 h2 h3 : Int32) : fX9_mayAsk (nI R) h1 h2 h3 mn vm am w (nI n) (nI l) = some (bI (!fullS a q (bst R N al vw w n l)), plI (bst R N al vw w n l), fvI (bst R N al vw w n l), nI (bst R N al vw w n l).1, w) := by
  obtain ⟨⟨ha, hask, hw6⟩, -, -, -, -, -, -, ⟨hci, him, hwai, hw7⟩, -⟩ := id B
  unfold fX9_mayAsk fullS
  rw [L_find HM B n1 n6 l9, Option.bind_some]
  show (if (30 : Int32) ≤ w 6 then _ else (if 0 < nI (bst R N al vw w n l).1 then _ else (if (5 : Int32) ≤ w 7 then _ else _))) = _
  rw [hw6, hw7]
  by_cases c1 : 30 ≤ a
  · rw [if_pos (show (30 : Int32) ≤ nI a from nI_le (a := 30) c1 (by omega)), decide_eq_true c1]
    rfl
  · rw [if_neg (show ¬ (30 : Int32) ≤ nI a from nI_ge (b := 30) (by omega) (by decide)), decide_eq_false c1]
    by_cases c2 : (bst R N al vw w n l).1 = 0
    · rw [if_neg (fun e => by have := (pos0 (by omega)).mp e; omega), decide_eq_true c2]
      by_cases c3 : 5 ≤ q
      · rw [if_pos (show (5 : Int32) ≤ nI q from nI_le (a := 5) c3 (by omega)), decide_eq_true c3]
        rfl
      · rw [if_neg (show ¬ (5 : Int32) ≤ nI q from nI_ge (b := 5) (by omega) (by decide)), decide_eq_false c3]
        rfl
    · rw [if_pos ((pos0 (by omega)).mpr (by omega)), decide_eq_false c2]
      rfl
