/-! letting in -/
def shq (qu : Nat → Int32) (x j : Nat) : Nat → Int32 := fun t => if x ≤ t ∧ t < j then qu (t + 1) else qu t
theorem shq_0 (qu : Nat → Int32) (x : Nat) : shq qu x x = qu := by
  funext t
  unfold shq
  rw [if_neg (by omega)]
theorem shq_s {qu : Nat → Int32} {x j : Nat} (h : x ≤ j) : upd (shq qu x j) j (shq qu x j (j + 1)) = shq qu x (j + 1) := by
  funext t
  unfold upd
  by_cases ht : t = j
  · subst ht
    rw [if_pos rfl]
    unfold shq
    rw [if_neg (by omega), if_pos (by omega)]
  · rw [if_neg ht]
    unfold shq
    by_cases h2 : x ≤ t ∧ t < j
    · rw [if_pos h2, if_pos (by omega)]
    · rw [if_neg h2, if_neg (by omega)]
theorem c_posLoop {qu : Nat → Int32} {k x p : Nat} (hk : k ≤ 5) (hx : x < k) (hq : qu x = nI p) (hb : ∀ y, y < x → ¬ qu y = nI p) : ∀ fu j, j ≤ x → x + 1 ≤ j + fu → fX0_positionOf_2 fu (nI k) qu (nI p) (nI j) = some (nI x) := by
  intro fu
  induction fu with
  | zero => intro j h1 h2; omega
  | succ fu ih =>
    intro j h1 h2
    rw [fX0_positionOf_2, if_neg (nI_ge (by omega) (by omega)), if_neg (show ¬ (5 : Int32) ≤ nI j from nI_ge (b := 5) (by omega) (by decide)), if_neg (nI_in (by omega) (by decide)), nI_clamp (by omega)]
    by_cases h : j = x
    · subst h
      rw [if_pos hq]
    · rw [if_neg (hb j (by omega)), nI_1]
      exact ih (j + 1) (by omega) (by omega)
theorem c_positionOf {qu : Nat → Int32} {k x p : Nat} (hk : k ≤ 5) (hx : x < k) (hq : qu x = nI p) (hb : ∀ y, y < x → ¬ qu y = nI p) : fX0_positionOf (nI k) qu (nI p) = some (nI x) := c_posLoop hk hx hq hb FU 0 (by omega) (by have := FU_ge (k := 10) (by decide); omega)
theorem c_posNone {qu : Nat → Int32} {k : Nat} {y : Int32} (hk : k ≤ 5) (hb : ∀ x, x < k → ¬ qu x = y) : fX0_positionOf (nI k) qu y = some (-9 : Int32) := by
  have h : ∀ fu j, j ≤ k → k + 1 ≤ j + fu → fX0_positionOf_2 fu (nI k) qu y (nI j) = some (-9 : Int32) := by
    intro fu
    induction fu with
    | zero => intro j h1 h2; omega
    | succ fu ih =>
      intro j h1 h2
      rw [fX0_positionOf_2]
      by_cases h : j = k
      · subst h
        rw [if_pos (nI_le (Nat.le_refl _) (by omega))]
      · rw [if_neg (nI_ge (by omega) (by omega)), if_neg (show ¬ (5 : Int32) ≤ nI j from nI_ge (b := 5) (by omega) (by decide)), if_neg (nI_in (by omega) (by decide)), nI_clamp (by omega), if_neg (hb j (by omega)), nI_1]
        exact ih (j + 1) (by omega) (by omega)
  exact h FU 0 (by omega) (by have := FU_ge (k := 10) (by decide); omega)
theorem c_deqLoop {qu : Nat → Int32} {k x : Nat} (hk : k ≤ 5) : ∀ fu j, x ≤ j → j + 1 ≤ k → k + 1 ≤ j + fu → fX0_dequeue_13 fu (nI k) (shq qu x j) (nI j) = some (nI (k - 1), shq qu x (k - 1)) := by
  intro fu
  induction fu with
  | zero => intro j h1 h2 h3; omega
  | succ fu ih =>
    intro j h1 h2 h3
    rw [fX0_dequeue_13, nI_1]
    by_cases h : k = j + 1
    · rw [if_pos (nI_le (by omega) (by omega))]
      unfold fX0_dequeue_50
      rw [show nI k - 1 = nI (k - 1) from sub1 (by omega), show k - 1 = j by omega]
    · rw [if_neg (nI_ge (by omega) (by omega)), if_neg (show ¬ (5 : Int32) ≤ nI (j + 1) from nI_ge (b := 5) (by omega) (by decide)), if_neg (nI_in (by omega) (by decide)), if_neg (nI_in (by omega) (by decide)), nI_clamp (by omega), nI_clamp (by omega), shq_s h1]
      exact ih (j + 1) (by omega) (by omega) (by omega)
theorem c_dequeue {qu : Nat → Int32} {k x p : Nat} (hk : k ≤ 5) (hx : x < k) (hq : qu x = nI p) (hb : ∀ y, y < x → ¬ qu y = nI p) : fX0_dequeue (nI k) qu (nI p) = some (nI (k - 1), shq qu x (k - 1)) := by
  unfold fX0_dequeue
  rw [c_positionOf hk hx hq hb, Option.bind_some, if_pos (nI_pos' (by omega))]
  have h := c_deqLoop (qu := qu) (x := x) hk FU x (Nat.le_refl _) (by omega) (by have := FU_ge (k := 10) (by decide); omega)
  rw [shq_0] at h
  exact h
theorem nI_inj {x y : Nat} (hx : x < 1000) (hy : y < 1000) (h : nI x = nI y) : x = y := (nI_eq (by omega) (by omega)).mp h
/-- the first of those still to be looked at leaves the class's queue and is in between -/
theorem L_deq {R : Nat} {N : Nat → Nat} {a p c i m : Nat} {pr fr sz lm pc pd qu : Nat → Int32} {ask wai fee tak : Int32} {w : Nat → Int32} (B : BKg R N a 0 c i (m + 1) pr fr sz lm pc pd qu ask wai fee tak w) (hp1 : 1 ≤ p) (hpa : p ≤ a) (hq : qu c = nI p) (h2w : w (45 + 6 * p) = nI 2) :
    BKg R N a p c (i + 1) m pr fr sz lm pc pd (shq qu c (c + m)) ask (nI (c + m)) fee tak w := by
  obtain ⟨⟨ha, hask, hw6⟩, hPN, hPt, hOw, hpr, hfrs, hft, ⟨hci, him, hwai, hw7⟩, ⟨hq1, hq2⟩, hqm, hqd⟩ := B
  have lo : ∀ x, x < c → shq qu c (c + m) x = qu x := fun x hx => if_neg (by omega)
  have hi : ∀ x, c ≤ x → x < c + m → shq qu c (c + m) x = qu (x + 1) := fun x h1 h2 => if_pos ⟨h1, h2⟩
  have mp : ∀ x, x < c + m → ∃ y, y < c + (m + 1) ∧ y ≠ c ∧ shq qu c (c + m) x = qu y ∧ (y = x ∧ x < c ∨ y = x + 1 ∧ c ≤ x) := fun x hx => by
    by_cases h : x < c
    · exact ⟨x, by omega, by omega, lo x h, Or.inl ⟨rfl, h⟩⟩
    · exact ⟨x + 1, by omega, by omega, hi x (by omega) hx, Or.inr ⟨rfl, by omega⟩⟩
  refine ⟨⟨ha, hask, hw6⟩, hPN, fun q h1 h2 h3 => ?_, fun r hr s hs => ?_, hpr, hfrs, hft, ⟨by omega, by omega, rfl, hw7⟩, ⟨fun j hj => by rw [lo j hj]; exact hq1 j hj, fun t ht => ?_⟩, fun x hx => ?_, fun x y hx hy e => ?_⟩
  · obtain ⟨hd, hst⟩ := hPt q h1 h2 (by omega)
    refine ⟨hd, ?_⟩
    rcases hst with h | h | ⟨t1, t2, t3, x, hx, t4⟩
    · exact Or.inl h
    · exact Or.inr (Or.inl h)
    · refine Or.inr (Or.inr ⟨t1, t2, t3, ?_⟩)
      have hxc : x ≠ c := fun e => by
        rw [e, hq] at t4
        exact h3 (nI_inj (by omega) (by omega) t4).symm
      by_cases h : x < c
      · exact ⟨x, by omega, by rw [lo x h]; exact t4⟩
      · refine ⟨x - 1, by omega, ?_⟩
        rw [hi (x - 1) (by omega) (by omega), show x - 1 + 1 = x by omega]
        exact t4
  · rcases hOw r hr s hs with h | ⟨q, n', s0, q1, q2, q3, q4, q5, q6⟩
    · exact Or.inl h
    · refine Or.inr ⟨q, n', s0, q1, q2, fun e => ?_, q4, q5, q6⟩
      rw [e, h2w] at q5
      exact absurd (nI_inj (by decide) (by decide) q5) (by decide)
  · rw [hi (c + t) (by omega) (by omega), show c + t + 1 = c + (t + 1) by omega, hq2 (t + 1) (by omega)]
    congr 1
    omega
  · obtain ⟨y, y1, y2, y3, _⟩ := mp x hx
    obtain ⟨q, q1, q2, q3, q4, q5⟩ := hqm y y1
    refine ⟨q, q1, q2, fun e => ?_, by rw [y3]; exact q4, q5⟩
    rw [e, ← hq] at q4
    exact y2 (hqd y c y1 (by omega) q4)
  · obtain ⟨x', x1, x2, x3, x4⟩ := mp x hx
    obtain ⟨y', y1, y2, y3, y4⟩ := mp y hy
    rw [x3, y3] at e
    have := hqd x' y' x1 y1 e
    omega
/-- one that finds no place stays in the queue -/
theorem L_stay {R : Nat} {N : Nat → Nat} {a c i m : Nat} {pr fr sz lm pc pd qu : Nat → Int32} {ask wai fee tak : Int32} {w : Nat → Int32} (hR : R ≤ 4) (hN : ∀ r, r < R → N r ≤ 9) (B : BKg R N a 0 c i (m + 1) pr fr sz lm pc pd qu ask wai fee tak w) :
    BKg R N a 0 (c + 1) (i + 1) m pr fr sz lm pc pd qu ask wai fee tak (upd (upd w (8 + c) (qu c)) 7 (nI (c + 1))) := by
  obtain ⟨⟨ha, hask, hw6⟩, hPN, hPt, hOw, hpr, ⟨hfr, hfr0⟩, ⟨hfee, htak⟩, ⟨hci, him, hwai, hw7⟩, ⟨hq1, hq2⟩, hqm, hqd⟩ := B
  have out : ∀ j, j ≠ 7 → j ≠ 8 + c → upd (upd w (8 + c) (qu c)) 7 (nI (c + 1)) j = w j := fun j h1 h2 => by rw [upd_ne h1, upd_ne h2]
  have big : ∀ j, 13 ≤ j → upd (upd w (8 + c) (qu c)) 7 (nI (c + 1)) j = w j := fun j h => out j (by omega) (by omega)
  have ecm : c + 1 + m = c + (m + 1) := by omega
  refine ⟨⟨ha, hask, by rw [out 6 (by omega) (by omega)]; exact hw6⟩, fun q h1 h2 => ?_, fun q h1 h2 h3 => ?_, fun r' hr' s' hs' => ?_, fun r' hr' => by rw [out r' (by omega) (by omega)]; exact hpr r' hr', ⟨fun r' hr' => ?_, hfr0⟩, ⟨by rw [out 4 (by omega) (by omega)]; exact hfee, by rw [out 5 (by omega) (by omega)]; exact htak⟩, ⟨by omega, by omega, by rw [ecm]; exact hwai, by rw [upd_at]⟩, ⟨fun j hj => ?_, fun t ht => ?_⟩, fun x hx => ?_, fun x y hx hy e => hqd x y (by omega) (by omega) e⟩
  · unfold PtN
    rw [big _ (by omega), big _ (by omega)]
    exact hPN q h1 h2
  · obtain ⟨hd, hst⟩ := hPt q h1 h2 h3
    rw [ecm]
    refine ⟨by rw [big _ (by omega)]; exact hd, ?_⟩
    rcases hst with ⟨t1, n', r', s', t2, t3, t4, t5, t6, t7, t8⟩ | ⟨t1, t2, t3⟩ | ⟨t1, t2, t3, t4⟩
    · exact Or.inl ⟨by rw [big _ (by omega)]; exact t1, n', r', s', by rw [big _ (by omega)]; exact t2, t3, t4, by rw [big _ (by omega)]; exact t5, by rw [big _ (by omega)]; exact t6, t7, fun k hk => by rw [big _ (by omega)]; exact t8 k hk⟩
    · exact Or.inr (Or.inl ⟨by rw [big _ (by omega)]; exact t1, t2, by rw [big _ (by omega)]; exact t3⟩)
    · exact Or.inr (Or.inr ⟨by rw [big _ (by omega)]; exact t1, t2, by rw [big _ (by omega)]; exact t3, t4⟩)
  · have e0 := big (13 + 9 * r' + s') (by omega)
    rcases hOw r' hr' s' hs' with h | ⟨q, n', s0, q1, q2, q3, q4, q5, q6, q7, q8, q9, q10⟩
    · exact Or.inl (by rw [e0]; exact h)
    · exact Or.inr ⟨q, n', s0, q1, q2, q3, by rw [e0]; exact q4, by rw [big _ (by omega)]; exact q5, by rw [big _ (by omega)]; exact q6, by rw [big _ (by omega)]; exact q7, by rw [big _ (by omega)]; exact q8, q9, q10⟩
  · rw [hfr r' hr']
    refine FA_cong (fun k hk => ?_)
    unfold frW
    rw [big _ (by omega)]
  · by_cases h : j = c
    · subst h
      rw [upd_ne (by omega), upd_at]
    · rw [out _ (by omega) (by omega)]
      exact hq1 j (by omega)
  · rw [out _ (by omega) (by omega), show c + 1 + t = c + (t + 1) by omega, hq2 (t + 1) (by omega)]
    congr 1
    omega
  · obtain ⟨q, q1, q2, q3, q4, q5⟩ := hqm x (by omega)
    exact ⟨q, q1, q2, q3, q4, by rw [big _ (by omega)]; exact q5⟩
