/-! leaving the queue -/
def lvW (w : Nat → Int32) (p x k : Nat) : Nat → Int32 := fun j => if j = 45 + 6 * p then 0 else if j = 7 then nI (if k ≤ x then k else k - 1) else if 8 + x ≤ j ∧ j + 1 < 8 + k then w (j + 1) else w j
theorem lvW_45 {w : Nat → Int32} {p x k : Nat} : lvW w p x k (45 + 6 * p) = 0 := if_pos rfl
theorem lvW_7 {w : Nat → Int32} {p x k : Nat} : lvW w p x k 7 = nI (if k ≤ x then k else k - 1) := by
  unfold lvW
  rw [if_neg (by omega), if_pos rfl]
theorem lvW_q {w : Nat → Int32} {p x k j : Nat} (h1 : 8 + x ≤ j) (h2 : j + 1 < 8 + k) (hk : k ≤ 5) : lvW w p x k j = w (j + 1) := by
  unfold lvW
  rw [if_neg (by omega), if_neg (by omega), if_pos ⟨h1, h2⟩]
theorem lvW_o {w : Nat → Int32} {p x k j : Nat} (h1 : j ≠ 45 + 6 * p) (h2 : j ≠ 7) (h3 : ¬ (8 + x ≤ j ∧ j + 1 < 8 + k)) : lvW w p x k j = w j := by
  unfold lvW
  rw [if_neg h1, if_neg h2, if_neg h3]
theorem m_leave67 {w book : Nat → Int32} {p x n : Nat} {th dg : Int32} (hp1 : 1 ≤ p) (hp3 : p ≤ 30) (hx : x < n) (hn : n ≤ 5) (hat : w (8 + x) = nI p) (hno : ∀ y, y < n → y ≠ x → ¬ w (8 + y) = nI p) : ∀ fu k, k ≤ n → n + 1 ≤ k + fu → fX9_leave_67 fu th dg (lvW w p x k) book (nI p) (nI n) (nI k) = some (nI (n - 1), th, dg, lvW w p x n, book) := by
  intro fu
  induction fu with
  | zero => intro k h1 h2; omega
  | succ fu ih =>
    intro k h1 h2
    rw [fX9_leave_67]
    by_cases h : k = n
    · subst h
      rw [if_pos (nI_le (Nat.le_refl _) (by omega)), c7, lvW_7, if_neg (by omega)]
    · have ek : lvW w p x k (8 + k) = w (8 + k) := lvW_o (by omega) (by omega) (by omega)
      rw [if_neg (nI_ge (by omega) (by omega)), lp8x, if_neg (nI_in (by omega) (by decide)), nI_clamp (n := 8 + k) (by omega), ek]
      by_cases hkx : k = x
      · subst hkx
        rw [if_pos hat, nI_1]
        have e : lvW w p k k = lvW w p k (k + 1) := by
          funext j
          unfold lvW
          by_cases j1 : j = 45 + 6 * p
          · rw [if_pos j1, if_pos j1]
          · rw [if_neg j1, if_neg j1]
            by_cases j2 : j = 7
            · rw [if_pos j2, if_pos j2, if_pos (Nat.le_refl _), if_neg (by omega)]
              rfl
            · rw [if_neg j2, if_neg j2, if_neg (by omega), if_neg (by omega)]
        rw [e]
        exact ih (k + 1) (by omega) (by omega)
      · rw [if_neg (hno k (by omega) hkx), c7, lvW_7]
        have e2 : (8 : Int32) + nI (if k ≤ x then k else k - 1) = nI (8 + (if k ≤ x then k else k - 1)) := lp8x _
        have hc : (if k ≤ x then k else k - 1) < 5 := by by_cases g : k ≤ x <;> simp [g] <;> omega
        rw [e2, if_neg (nI_in (by omega) (by decide)), nI_clamp (by omega), upd_ne (show 7 ≠ 8 + (if k ≤ x then k else k - 1) by omega), lvW_7, nI_1, nI_1]
        have e : upd (upd (lvW w p x k) (8 + (if k ≤ x then k else k - 1)) (w (8 + k))) 7 (nI ((if k ≤ x then k else k - 1) + 1)) = lvW w p x (k + 1) := by
          funext j
          by_cases j7 : j = 7
          · subst j7
            rw [upd_at, lvW_7]
            congr 1
            by_cases g : k ≤ x
            · rw [if_pos g, if_pos (by omega)]
            · rw [if_neg g, if_neg (by omega)]
              omega
          · rw [upd_ne j7]
            by_cases g : k ≤ x
            · rw [if_pos g]
              by_cases j8 : j = 8 + k
              · subst j8
                rw [upd_at, lvW_o (by omega) (by omega) (by omega)]
              · rw [upd_ne j8]
                unfold lvW
                rw [if_neg j7, if_neg j7, if_neg (show ¬ (8 + x ≤ j ∧ j + 1 < 8 + k) by omega), if_neg (show ¬ (8 + x ≤ j ∧ j + 1 < 8 + (k + 1)) by omega)]
            · rw [if_neg g]
              by_cases j8 : j = 8 + (k - 1)
              · subst j8
                rw [upd_at, lvW_q (by omega) (by omega) (by omega)]
                congr 1
                omega
              · rw [upd_ne j8]
                unfold lvW
                rw [if_neg j7, if_neg j7]
                by_cases j9 : 8 + x ≤ j ∧ j + 1 < 8 + k
                · rw [if_pos j9, if_pos (show 8 + x ≤ j ∧ j + 1 < 8 + (k + 1) by omega)]
                · rw [if_neg j9, if_neg (show ¬ (8 + x ≤ j ∧ j + 1 < 8 + (k + 1)) by omega)]
        rw [e]
        exact ih (k + 1) (by omega) (by omega)
theorem L_leave {R : Nat} {N : Nat → Nat} {a p q x : Nat} {pr fr sz lm pc pd qu : Nat → Int32} {ask wai fee tak : Int32} {w : Nat → Int32} (hR : R ≤ 4) (hN : ∀ r, r < R → N r ≤ 9) (B : BKg R N a 0 q q 0 pr fr sz lm pc pd qu ask wai fee tak w) (hp1 : 1 ≤ p) (hpa : p ≤ a) (hx : x < q) (hqx : qu x = nI p) (h2w : w (45 + 6 * p) = nI 2) :
    BKg R N a 0 (q - 1) (q - 1) 0 pr fr sz lm pc pd (shq qu x (q - 1)) ask (nI (q - 1)) fee tak (lvW w p x q) := by
  obtain ⟨⟨ha, hask, hw6⟩, hPN, hPt, hOw, hpr, ⟨hfr, hfr0⟩, ⟨hfee, htak⟩, ⟨hci, him, hwai, hw7⟩, ⟨hq1, hq2⟩, hqm, hqd⟩ := B
  rw [Nat.add_zero] at hqm hqd hPt
  have out : ∀ j, j ≠ 45 + 6 * p → j < 7 ∨ 13 ≤ j → lvW w p x q j = w j := fun j h1 h2 => lvW_o h1 (by omega) (by omega)
  have o45 : ∀ y, y ≠ p → 1 ≤ y → lvW w p x q (45 + 6 * y) = w (45 + 6 * y) := fun y h1 h2 => out _ (by omega) (by omega)
  have lo : ∀ t, t < x → shq qu x (q - 1) t = qu t := fun t ht => if_neg (by omega)
  have hi : ∀ t, x ≤ t → t < q - 1 → shq qu x (q - 1) t = qu (t + 1) := fun t h1 h2 => if_pos ⟨h1, h2⟩
  have mp : ∀ t, t < q - 1 → ∃ y, y < q ∧ y ≠ x ∧ shq qu x (q - 1) t = qu y ∧ (y = t ∧ t < x ∨ y = t + 1 ∧ x ≤ t) := fun t ht => by
    by_cases h : t < x
    · exact ⟨t, by omega, by omega, lo t h, Or.inl ⟨rfl, h⟩⟩
    · exact ⟨t + 1, by omega, by omega, hi t (by omega) ht, Or.inr ⟨rfl, by omega⟩⟩
  refine ⟨⟨ha, hask, by rw [out 6 (by omega) (by omega)]; exact hw6⟩, fun y g1 g2 => ?_, fun y g1 g2 g3 => ?_, fun r' hr' s' hs' => ?_, fun r' hr' => by rw [out r' (by omega) (by omega)]; exact hpr r' hr', ⟨fun r' hr' => ?_, hfr0⟩, ⟨by rw [out 4 (by omega) (by omega)]; exact hfee, by rw [out 5 (by omega) (by omega)]; exact htak⟩, ⟨Nat.le_refl _, by omega, rfl, ?_⟩, ⟨fun j hj => ?_, fun t ht => by omega⟩, fun t ht => ?_, fun t y ht hy e => ?_⟩
  · unfold PtN
    rw [out _ (by omega) (by omega), out _ (by omega) (by omega)]
    exact hPN y g1 g2
  · obtain ⟨hd, hst⟩ := hPt y g1 g2 g3
    refine ⟨by rw [out _ (by omega) (by omega)]; exact hd, ?_⟩
    by_cases hyp : y = p
    · subst hyp
      rcases hst with ⟨t1, -⟩ | ⟨t1, t2, t3⟩ | ⟨t1, t2, t3, t4⟩
      · exact absurd (nI_inj (by decide) (by decide) (h2w.symm.trans t1)) (by decide)
      · exact absurd (nI_inj (by decide) (by decide) (h2w.symm.trans t1)) (by decide)
      · exact Or.inr (Or.inl ⟨lvW_45, t2, by rw [out _ (by omega) (by omega)]; exact t3⟩)
    · rcases hst with ⟨t1, n', r', s', t2, t3, t4, t5, t6, t7, t8⟩ | ⟨t1, t2, t3⟩ | ⟨t1, t2, t3, z, hz, t4⟩
      · refine Or.inl ⟨by rw [o45 y hyp g1]; exact t1, n', r', s', by rw [out _ (by omega) (by omega)]; exact t2, t3, t4, by rw [out _ (by omega) (by omega)]; exact t5, by rw [out _ (by omega) (by omega)]; exact t6, t7, fun k hk => ?_⟩
        have := hN r' t3
        rw [out _ (by omega) (by omega)]
        exact t8 k hk
      · exact Or.inr (Or.inl ⟨by rw [o45 y hyp g1]; exact t1, t2, by rw [out _ (by omega) (by omega)]; exact t3⟩)
      · refine Or.inr (Or.inr ⟨by rw [o45 y hyp g1]; exact t1, t2, by rw [out _ (by omega) (by omega)]; exact t3, ?_⟩)
        have hzx : z ≠ x := fun e => by
          rw [e, hqx] at t4
          exact hyp (nI_inj (by omega) (by omega) t4).symm
        rw [Nat.add_zero]
        by_cases h : z < x
        · exact ⟨z, by omega, by rw [lo z h]; exact t4⟩
        · refine ⟨z - 1, by omega, ?_⟩
          rw [hi (z - 1) (by omega) (by omega), show z - 1 + 1 = z by omega]
          exact t4
  · have := hN r' hr'
    have e0 := out (13 + 9 * r' + s') (by omega) (by omega)
    rcases hOw r' hr' s' hs' with h | ⟨y, n', s0, q1, q2, q3, q4, q5, q6, q7, q8, q9, q10⟩
    · exact Or.inl (by rw [e0]; exact h)
    · have hyp : y ≠ p := fun e => by
        rw [e, h2w] at q5
        exact absurd (nI_inj (by decide) (by decide) q5) (by decide)
      exact Or.inr ⟨y, n', s0, q1, q2, q3, by rw [e0]; exact q4, by rw [o45 y hyp q1]; exact q5, by rw [out _ (by omega) (by omega)]; exact q6, by rw [out _ (by omega) (by omega)]; exact q7, by rw [out _ (by omega) (by omega)]; exact q8, q9, q10⟩
  · rw [hfr r' hr']
    refine FA_cong (fun k hk => ?_)
    have := hN r' hr'
    unfold frW
    rw [out _ (by omega) (by omega)]
  · rw [lvW_7, if_neg (by omega)]
  · by_cases h : j < x
    · rw [lo j h, lvW_o (by omega) (by omega) (by omega)]
      exact hq1 j (by omega)
    · rw [hi j (by omega) (by omega), lvW_q (by omega) (by omega) (by omega)]
      exact hq1 (j + 1) (by omega)
  · obtain ⟨y, y1, y2, y3, _⟩ := mp t (by omega)
    obtain ⟨z, q1, q2, q3, q4, q5⟩ := hqm y y1
    have hzp : z ≠ p := fun e => by
      rw [e, ← hqx] at q4
      exact y2 (hqd y x y1 hx q4)
    exact ⟨z, q1, q2, q3, by rw [y3]; exact q4, by rw [o45 z hzp q1]; exact q5⟩
  · obtain ⟨x', x1, x2, x3, x4⟩ := mp t (by omega)
    obtain ⟨y', y1, y2, y3, y4⟩ := mp y (by omega)
    rw [x3, y3] at e
    have := hqd x' y' x1 y1 e
    omega
/-- whether a party waits, is told alike -/
theorem waits_iff {R : Nat} {N : Nat → Nat} {a p q : Nat} {pr fr sz lm pc pd qu : Nat → Int32} {ask wai fee tak : Int32} {w : Nat → Int32} (B : BKg R N a 0 q q 0 pr fr sz lm pc pd qu ask wai fee tak w) (hp1 : 1 ≤ p) (hpa : p ≤ a) : (∃ x, x < q ∧ qu x = nI p) ↔ w (45 + 6 * p) = nI 2 := by
  obtain ⟨⟨ha, -⟩, -, hPt, -, -, -, -, -, -, hqm, hqd⟩ := B
  constructor
  · intro ⟨x, hx, e⟩
    obtain ⟨z, q1, q2, q3, q4, q5⟩ := hqm x (by omega)
    have : z = p := nI_inj (by omega) (by omega) (q4.symm.trans e)
    rw [← this]
    exact q5
  · intro h
    obtain ⟨-, ⟨t1, -⟩ | ⟨t1, -⟩ | ⟨-, -, -, x, hx, t4⟩⟩ := hPt p hp1 hpa (by omega)
    · exact absurd (nI_inj (by decide) (by decide) (h.symm.trans t1)) (by decide)
    · exact absurd (nI_inj (by decide) (by decide) (h.symm.trans t1)) (by decide)
    · exact ⟨x, by omega, t4⟩
theorem c_isWaiting1 {q x p : Nat} {qu : Nat → Int32} (hq : q ≤ 5) (hx : x < q) (e : qu x = nI p) (hb : ∀ y, y < x → ¬ qu y = nI p) : fX0_isWaiting (nI q) qu (nI p) = some 1 := by
  unfold fX0_isWaiting
  rw [c_positionOf hq hx e hb, Option.bind_some, if_neg (m9 (by omega))]
theorem c_isWaiting0 {q : Nat} {y : Int32} {qu : Nat → Int32} (hq : q ≤ 5) (hb : ∀ x, x < q → ¬ qu x = y) : fX0_isWaiting (nI q) qu y = some 0 := by
  unfold fX0_isWaiting
  rw [c_posNone hq hb, Option.bind_some, if_pos rfl]
theorem c_isWaiting {R : Nat} {N : Nat → Nat} {a p q : Nat} {pr fr sz lm pc pd qu : Nat → Int32} {ask wai fee tak : Int32} {w : Nat → Int32} (B : BKg R N a 0 q q 0 pr fr sz lm pc pd qu ask wai fee tak w) (hp1 : 1 ≤ p) (hpa : p ≤ a) : fX0_isWaiting (nI q) qu (nI p) = some (bI (decide (w (45 + 6 * p) = nI 2))) := by
  have hiff := waits_iff B hp1 hpa
  have hq5 : q ≤ 5 := B.2.2.2.2.2.2.2.1.2.1
  have hqd := B.2.2.2.2.2.2.2.2.2.2
  by_cases h : w (45 + 6 * p) = nI 2
  · obtain ⟨x, hx, e⟩ := hiff.mpr h
    rw [decide_eq_true h]
    exact c_isWaiting1 hq5 hx e (fun y hy e2 => by have := hqd y x (by omega) (by omega) (e2.trans e.symm); omega)
  · rw [decide_eq_false h]
    exact c_isWaiting0 hq5 (fun x hx e => h (hiff.mp ⟨x, hx, e⟩))
theorem O_leave {R : Nat} {N : Nat → Nat} {pr fr sz lm pc pd qu w book : Nat → Int32} {ask wai fee tak : Int32} {x u : Nat} {pA : Nat → Nat → Nat → Int32} {pV : Nat → Nat → Int32} (hR : R ≤ 4) (hN : ∀ r, r < R → N r ≤ 9) (B : BK R N pr fr sz lm pc pd qu ask wai fee tak w) (P : PastR R N x u pA pV book) (th x1 : Int32) :
    ∃ (ans wai' : Int32) (qu' : Nat → Int32) (x' u' : Nat) (pA' : Nat → Nat → Nat → Int32) (pV' : Nat → Nat → Int32) (w' book' : Nat → Int32),
      fX8_leave ask wai fee tak pr fr sz lm pc pd qu (nI x) (nI u) pA pV x1 = some (ans, wai', qu', nI x', nI u', pA', pV') ∧ fX9_leave th (nI u) w book x1 = some (ans, 0, nI u', w', book') ∧ BK R N pr fr sz lm pc pd qu' ask wai' fee tak w' ∧ PastR R N x' u' pA' pV' book' ∧ ∀ i, 14 ≤ i → pA' i = pA i ∧ pV' i = pV i := by
  obtain ⟨x', u', pA', pV', book', e1, e2, P', hp⟩ := L_note hR hN B P
  have B0 := B
  obtain ⟨a, q, B⟩ := B
  obtain ⟨⟨ha, hask, hw6⟩, -, -, -, -, -, -, ⟨-, hq5, hwai, hw7⟩, ⟨hq1, -⟩, -, hqd⟩ := id B
  rw [Nat.add_zero] at hwai
  subst hask
  subst hwai
  unfold fX8_leave fX9_leave
  rw [c_knowsR, Option.bind_some, m_noParty hw6, Option.bind_some]
  cases hs : inR x1 1 a with
  | false =>
    rw [ib_f, Bool.not_false, ib_t]
    exact ⟨_, _, _, x, u, pA, pV, w, book, rfl, rfl, B0, P, fun _ _ => ⟨rfl, rfl⟩⟩
  | true =>
    obtain ⟨p, p1, pa, rfl⟩ := inR_at (by omega) (by decide) hs
    rw [ib_t, Bool.not_true, ib_f, c_isWaiting B p1 pa, Option.bind_some, m_at p1, Option.bind_some, pl2, if_neg (nI_in (by omega) (by decide)), nI_clamp (by omega), show 43 + 6 * p + 2 = 45 + 6 * p by omega]
    by_cases hst : w (45 + 6 * p) = nI 2
    · obtain ⟨y, hy, ey⟩ := (waits_iff B p1 pa).mpr hst
      have hw8 : w (8 + y) = nI p := by rw [← hq1 y hy]; exact ey
      have hb : ∀ z, z < q → z ≠ y → ¬ qu z = nI p := fun z hz hzy e3 => hzy (hqd z y (by omega) (by omega) (e3.trans ey.symm))
      have hno : ∀ z, z < q → z ≠ y → ¬ w (8 + z) = nI p := fun z hz hzy => by rw [← hq1 z hz]; exact hb z hz hzy
      have h67 := m_leave67 (book := book') (th := 0) (dg := nI u') p1 (by omega) hy hq5 hw8 hno FU 0 (by omega) (by have := FU_ge (k := 10) (by decide); omega)
      have e0 : upd (upd w (45 + 6 * p) 0) 7 0 = lvW w p y 0 := by
        funext j
        unfold lvW upd
        by_cases j7 : j = 7
        · rw [if_pos j7, if_neg (by omega), if_pos j7, if_pos (by omega)]
          rfl
        · rw [if_neg j7, if_neg j7, if_neg (show ¬ (8 + y ≤ j ∧ j + 1 < 8 + 0) by omega)]
      rw [decide_eq_true hst, ib_t, if_pos (show w (45 + 6 * p) = 2 from hst), e1, Option.bind_some, e2, Option.bind_some, Option.bind_some, pl2, if_neg (nI_in (by omega) (by decide)), nI_clamp (n := 43 + 6 * p + 2) (by omega), show 43 + 6 * p + 2 = 45 + 6 * p by omega, c_dequeue (by omega) hy ey (fun z hz => hb z (by omega) (by omega)), Option.bind_some, c7, upd_ne (show 7 ≠ 45 + 6 * p by omega), hw7]
      unfold fX0_waiting
      rw [Option.bind_some]
      dsimp only
      rw [e0]
      refine ⟨_, _, _, x', u', pA', pV', _, book', rfl, h67, ⟨a, q - 1, L_leave hR hN B p1 pa hy ey hst⟩, P', hp⟩
    · rw [decide_eq_false hst, ib_f, if_neg (show ¬ w (45 + 6 * p) = 2 from hst)]
      exact ⟨_, _, _, x, u, pA, pV, w, book, rfl, rfl, B0, P, fun _ _ => ⟨rfl, rfl⟩⟩
