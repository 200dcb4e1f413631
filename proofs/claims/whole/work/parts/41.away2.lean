/-! the parties of a row, one by one -/
def rpB (w : Nat → Int32) (r k : Nat) : Bool := decide (w (45 + 6 * (k + 1)) = nI 1 ∧ w (46 + 6 * (k + 1)) = nI r)
def szN (w : Nat → Int32) (k : Nat) : Nat := (w (43 + 6 * (k + 1))).toNatClampNeg
def zN (w : Nat → Int32) (r a k : Nat) : Nat := szN w (fa_first (fun i => rpB w r i && decide (fb_ct (rpB w r) i = k)) a)
theorem zN_at {w : Nat → Int32} {r a j : Nat} (hj : j < a) (h : rpB w r j = true) : zN w r a (fb_ct (rpB w r) j) = szN w j := by
  have hp : (fun i => rpB w r i && decide (fb_ct (rpB w r) i = fb_ct (rpB w r) j)) j = true := by
    show (rpB w r j && decide (fb_ct (rpB w r) j = fb_ct (rpB w r) j)) = true
    rw [h, decide_eq_true rfl]
    rfl
  have hle : fa_first (fun i => rpB w r i && decide (fb_ct (rpB w r) i = fb_ct (rpB w r) j)) a ≤ j := by
    by_cases c : j < fa_first (fun i => rpB w r i && decide (fb_ct (rpB w r) i = fb_ct (rpB w r) j)) a
    · have := fa_first_no _ a j c
      exact absurd (hp.symm.trans this) (by decide)
    · omega
  have hy := fa_first_yes (fun i => rpB w r i && decide (fb_ct (rpB w r) i = fb_ct (rpB w r) j)) a (by omega)
  unfold zN
  generalize fa_first (fun i => rpB w r i && decide (fb_ct (rpB w r) i = fb_ct (rpB w r) j)) a = f at hy hle
  have hy2 : rpB w r f = true ∧ fb_ct (rpB w r) f = fb_ct (rpB w r) j := by
    rw [Bool.and_eq_true] at hy
    exact ⟨hy.1, of_decide_eq_true hy.2⟩
  rw [fb_ct_kth_one hy2.1 h hy2.2]
theorem zN_sum {w : Nat → Int32} {r a : Nat} : ∀ j, j ≤ a → fb_sm (zN w r a) (fb_ct (rpB w r) j) = fb_sm (fun i => if rpB w r i then szN w i else 0) j := by
  intro j
  induction j with
  | zero => intro _; rfl
  | succ j ih =>
    intro hj
    rw [fb_ct_succ, fb_sm_succ, ← ih (by omega)]
    cases h : rpB w r j with
    | false => rfl
    | true =>
      show fb_sm (zN w r a) (fb_ct (rpB w r) j + 1) = _
      rw [fb_sm_succ, zN_at (by omega) h]
      rfl
/-- seats of a row that belong to the first parties -/
def ownT (w : Nat → Int32) (r : Nat) : Nat → Nat → Bool
  | 0, _ => false
  | j + 1, s => ownT w r j s || decide (w (13 + 9 * r + s) = nI (j + 1))
theorem ownT_at {w : Nat → Int32} {r s : Nat} : ∀ j, ownT w r j s = true → ∃ p, 1 ≤ p ∧ p ≤ j ∧ w (13 + 9 * r + s) = nI p := by
  intro j
  induction j with
  | zero => intro h; cases h
  | succ j ih =>
    intro h
    have h' : (ownT w r j s || decide (w (13 + 9 * r + s) = nI (j + 1))) = true := h
    rw [Bool.or_eq_true] at h'
    rcases h' with g | g
    · obtain ⟨p, p1, p2, p3⟩ := ih g
      exact ⟨p, p1, by omega, p3⟩
    · exact ⟨j + 1, by omega, Nat.le_refl _, of_decide_eq_true g⟩
theorem ct_span {s n M : Nat} (h : s + n ≤ M) : n ≤ fb_ct (spn s n) M := by
  have h1 := fb_ct_mono (spn s n) h
  rw [fb_ct_split] at h1
  have h2 : fb_ct (fun k => spn s n (s + k)) n = n := fb_ct_all.mpr (fun k hk => by
    unfold spn
    rw [decide_eq_true (by omega), decide_eq_true (by omega)]
    rfl)
  omega
theorem row_sum {R : Nat} {N : Nat → Nat} {a q r : Nat} {pr fr sz lm pc pd qu : Nat → Int32} {ask wai fee tak : Int32} {w : Nat → Int32} (hN : ∀ r, r < R → N r ≤ 9) (hR : R ≤ 4) (B : BKg R N a 0 q q 0 pr fr sz lm pc pd qu ask wai fee tak w) (hr : r < R) : ∀ j, j ≤ a → fb_sm (fun i => if rpB w r i then szN w i else 0) j ≤ fb_ct (ownT w r j) (N r) := by
  have ha := B.1.1
  intro j
  induction j with
  | zero => intro _; exact Nat.zero_le _
  | succ j ih =>
    intro hj
    have ih' := ih (by omega)
    have hor := fb_ct_or (p := ownT w r j) (q := fun s => decide (w (13 + 9 * r + s) = nI (j + 1))) (n := N r) (fun s hs h => by
      obtain ⟨p, p1, p2, p3⟩ := ownT_at j h.1
      have := nI_inj (by omega) (by omega) (p3.symm.trans (of_decide_eq_true h.2))
      omega)
    have hor' : fb_ct (ownT w r (j + 1)) (N r) = fb_ct (ownT w r j) (N r) + fb_ct (fun s => decide (w (13 + 9 * r + s) = nI (j + 1))) (N r) := hor
    rw [fb_sm_succ, hor']
    cases h : rpB w r j with
    | false =>
      show fb_sm _ j + 0 ≤ _
      omega
    | true =>
      have h2 := of_decide_eq_true h
      obtain ⟨n, r', s', n1, n6, e1, e2, e3, e4, e5, e6, e7, e8, e9⟩ := seated_at hN B (p := j + 1) (by omega) (by omega) (by omega) h2.1
      have hN' := hN r' e3
      have hrr : r' = r := nI_inj (by omega) (by omega) (e5.symm.trans h2.2)
      subst hrr
      have hsz : szN w j = n := by
        unfold szN
        rw [e1, nI_clamp (by omega)]
      have hc := ct_span e4
      have hsub : fb_ct (spn s' n) (N r') ≤ fb_ct (fun s => decide (w (13 + 9 * r' + s) = nI (j + 1))) (N r') := fb_ct_sub (fun k hk g => by
        unfold spn at g
        rw [Bool.and_eq_true] at g
        have g1 := of_decide_eq_true g.1
        have g2 := of_decide_eq_true g.2
        have := e9 (k - s') (by omega)
        rw [show s' + (k - s') = k by omega] at this
        exact decide_eq_true this)
      show fb_sm _ j + szN w j ≤ _
      rw [hsz]
      omega
theorem row_tot {R : Nat} {N : Nat → Nat} {a q r : Nat} {pr fr sz lm pc pd qu : Nat → Int32} {ask wai fee tak : Int32} {w : Nat → Int32} (hN : ∀ r, r < R → N r ≤ 9) (hR : R ≤ 4) (B : BKg R N a 0 q q 0 pr fr sz lm pc pd qu ask wai fee tak w) (hr : r < R) : fb_sm (zN w r a) (fb_ct (rpB w r) a) ≤ 9 ∧ fb_ct (rpB w r) a ≤ 9 := by
  have h1 := row_sum hN hR B hr a (Nat.le_refl _)
  have h2 := fb_ct_le (ownT w r a) (N r)
  have h3 := hN r hr
  have h4 := zN_sum (w := w) (r := r) (a := a) a (Nat.le_refl _)
  have h5 : ∀ j, j ≤ a → fb_ct (rpB w r) j ≤ fb_sm (fun i => if rpB w r i then szN w i else 0) j := by
    intro j
    induction j with
    | zero => intro _; exact Nat.le_refl _
    | succ j ih =>
      intro hj
      have ih' := ih (by omega)
      rw [fb_ct_succ, fb_sm_succ]
      cases h : rpB w r j with
      | false =>
        show fb_ct (rpB w r) j + 0 ≤ fb_sm _ j + 0
        omega
      | true =>
        have hh := of_decide_eq_true h
        obtain ⟨n, r', s', n1, n6, e1, -⟩ := seated_at hN B (p := j + 1) (by omega) (by omega) (by omega) hh.1
        have hsz : szN w j = n := by
          unfold szN
          rw [e1, nI_clamp (by omega)]
        show fb_ct (rpB w r) j + 1 ≤ fb_sm _ j + szN w j
        omega
  have h6 := h5 a (Nat.le_refl _)
  omega
theorem m_partyIn1 {w : Nat → Int32} {a r i : Nat} (ha : a ≤ 30) (hw6 : w 6 = nI a) (hi : i < a) (h : rpB w r i = true) : fX9_partyIn w (nI r) (nI (fb_ct (rpB w r) i)) = some (nI (i + 1)) := by
  have hL : ∀ fu j, j ≤ i → i + 1 ≤ j + fu → fX9_partyIn_5 fu w (nI r) (nI (fb_ct (rpB w r) i)) (nI (fb_ct (rpB w r) j)) (nI (j + 1)) = some (nI (i + 1)) := by
    intro fu
    induction fu with
    | zero => intro j h1 h2; omega
    | succ fu ih =>
      intro j h1 h2
      have hlej := fb_ct_le (rpB w r) j
      have hlei := fb_ct_le (rpB w r) i
      rw [fX9_partyIn_5, c6, hw6, if_neg (show ¬ nI a < nI (j + 1) from nI_nlt (by omega) (by omega)), m_sits ha hw6 (by omega) (by omega), Option.bind_some, m_at (by omega), Option.bind_some, pl3, if_neg (nI_in (by omega) (by decide)), nI_clamp (by omega), show 43 + 6 * (j + 1) + 3 = 46 + 6 * (j + 1) by omega, nI_1, nI_1]
      have ih2 : j < i → fX9_partyIn_5 fu w (nI r) (nI (fb_ct (rpB w r) i)) (nI (fb_ct (rpB w r) (j + 1))) (nI (j + 1 + 1)) = some (nI (i + 1)) := fun g => ih (j + 1) (by omega) (by omega)
      by_cases hj : rpB w r j = true
      · have hj2 := of_decide_eq_true hj
        rw [decide_eq_true hj2.1, ib_t, if_pos hj2.2]
        by_cases e : j = i
        · subst e
          rw [if_pos rfl]
        · have hm := fb_ct_mono (rpB w r) (show j + 1 ≤ i by omega)
          rw [fb_ct_succ (rpB w r) j, hj, if_pos rfl] at hm
          have ih3 := ih2 (by omega)
          rw [fb_ct_succ (rpB w r) j, hj, if_pos rfl] at ih3
          rw [if_neg (fun g => by have := nI_inj (by omega) (by omega) g; omega)]
          exact ih3
      · have hjf : rpB w r j = false := by cases hq : rpB w r j with
          | false => rfl
          | true => exact absurd hq hj
        have e : j ≠ i := fun g => by
          subst g
          exact hj h
        have ih3 := ih2 (by omega)
        rw [fb_ct_succ (rpB w r) j, hjf] at ih3
        have ih4 : fX9_partyIn_5 fu w (nI r) (nI (fb_ct (rpB w r) i)) (nI (fb_ct (rpB w r) j)) (nI (j + 1 + 1)) = some (nI (i + 1)) := ih3
        by_cases c1 : w (45 + 6 * (j + 1)) = nI 1
        · rw [decide_eq_true c1, ib_t, if_neg (fun c2 => hj (decide_eq_true ⟨c1, c2⟩))]
          exact ih4
        · rw [decide_eq_false c1, ib_f]
          exact ih4
  exact hL FU 0 (by omega) (by have := FU_ge (k := 50) (by decide); omega)
theorem m_partyIn0 {w : Nat → Int32} {a r : Nat} (ha : a ≤ 30) (hw6 : w 6 = nI a) : fX9_partyIn w (nI r) (nI (fb_ct (rpB w r) a)) = some (-9) := by
  have hL : ∀ fu j, j ≤ a → a + 1 ≤ j + fu → fX9_partyIn_5 fu w (nI r) (nI (fb_ct (rpB w r) a)) (nI (fb_ct (rpB w r) j)) (nI (j + 1)) = some (-9) := by
    intro fu
    induction fu with
    | zero => intro j h1 h2; omega
    | succ fu ih =>
      intro j h1 h2
      have hlej := fb_ct_le (rpB w r) j
      have hlei := fb_ct_le (rpB w r) a
      rw [fX9_partyIn_5, c6, hw6]
      by_cases e : j = a
      · subst e
        rw [if_pos (nI_lt' (by omega) (by omega))]
      · rw [if_neg (show ¬ nI a < nI (j + 1) from nI_nlt (by omega) (by omega)), m_sits ha hw6 (by omega) (by omega), Option.bind_some, m_at (by omega), Option.bind_some, pl3, if_neg (nI_in (by omega) (by decide)), nI_clamp (by omega), show 43 + 6 * (j + 1) + 3 = 46 + 6 * (j + 1) by omega, nI_1, nI_1]
        have ih2 := ih (j + 1) (by omega) (by omega)
        have hm := fb_ct_mono (rpB w r) (show j + 1 ≤ a by omega)
        rw [fb_ct_succ (rpB w r) j] at ih2 hm
        by_cases hj : rpB w r j = true
        · have hj2 := of_decide_eq_true hj
          rw [hj, if_pos rfl] at ih2 hm
          rw [decide_eq_true hj2.1, ib_t, if_pos hj2.2, if_neg (fun g => by have := nI_inj (by omega) (by omega) g; omega)]
          exact ih2
        · have hjf : rpB w r j = false := by cases hq : rpB w r j with
            | false => rfl
            | true => exact absurd hq hj
          rw [hjf] at ih2
          have ih4 : fX9_partyIn_5 fu w (nI r) (nI (fb_ct (rpB w r) a)) (nI (fb_ct (rpB w r) j)) (nI (j + 1 + 1)) = some (-9) := ih2
          by_cases c1 : w (45 + 6 * (j + 1)) = nI 1
          · rw [decide_eq_true c1, ib_t, if_neg (fun c2 => hj (decide_eq_true ⟨c1, c2⟩))]
            exact ih4
          · rw [decide_eq_false c1, ib_f]
            exact ih4
  exact hL FU 0 (by omega) (by have := FU_ge (k := 50) (by decide); omega)
theorem m_power (b : Nat) {n : Nat} (hn : n ≤ 9) : fX9_power (nI b) (nI n) = some (nI (b ^ n)) := by
  have hL : ∀ fu i, i ≤ n → n + 1 ≤ i + fu → fX9_power_4 fu (nI b) (nI n) (nI (b ^ i)) (nI i) = some (nI (b ^ n)) := by
    intro fu
    induction fu with
    | zero => intro i h1 h2; omega
    | succ fu ih =>
      intro i h1 h2
      rw [fX9_power_4]
      by_cases h : i = n
      · subst h
        rw [if_pos (nI_le (Nat.le_refl _) (by omega))]
      · rw [if_neg (nI_ge (by omega) (by omega)), pk_mul, ← Nat.pow_succ, nI_1]
        exact ih (i + 1) (by omega) (by omega)
  exact hL FU 0 (by omega) (by have := FU_ge (k := 50) (by decide); omega)
theorem cntS_9 {o n : Nat} (hn : n ≤ 9) (ho : o < 2 ^ n) : fb_ct (fun i => o.testBit i) 9 = cntS o n := by
  have h := fb_ct_split (fun i => o.testBit i) n (9 - n)
  rw [show n + (9 - n) = 9 by omega] at h
  have hz : fb_ct (fun k => o.testBit (n + k)) (9 - n) = 0 := fb_ct_zero.mpr (fun k hk => Nat.testBit_lt_two_pow (Nat.lt_of_lt_of_le ho (Nat.pow_le_pow_right (by decide) (by omega))))
  unfold cntS
  omega
theorem sumS_le {z : Nat → Nat} {o : Nat} : ∀ n, sumS z o n ≤ fb_sm z n := fun n => fb_sm_le (fun k hk => by
  cases o.testBit k with
  | false => exact Nat.zero_le _
  | true => exact Nat.le_refl _)
theorem m_awayIn {R : Nat} {N : Nat → Nat} {a q r x v o : Nat} {pr fr sz lm pc pd qu : Nat → Int32} {ask wai fee tak : Int32} {w : Nat → Int32} (hN : ∀ r, r < R → N r ≤ 9) (hR : R ≤ 4) (B : BKg R N a 0 q q 0 pr fr sz lm pc pd qu ask wai fee tak w) (hr : r < R) (hx : x ≤ 10) (hv : v ≤ 9) (ho : o < 2 ^ fb_ct (rpB w r) a) (k69 : Int32 → Int32 → (Nat → Int32) → Int32 → Int32 → Int32 → Int32 → Int32 → Int32 → Int32 → Option (Int32 × Int32)) {th rr x4 x6 : Int32} :
    ∀ fu i, i ≤ fb_ct (rpB w r) a → fb_ct (rpB w r) a + 1 ≤ i + fu → fX9_away_84 k69 fu th rr w (nI r) (nI v) (nI x) x4 (nI (fb_ct (rpB w r) a)) x6 (nI o) (nI (sumS (zN w r a) o i)) (nI i) = k69 th rr w (nI r) (nI v) (nI x) x4 (nI (fb_ct (rpB w r) a)) (x6 + nI (geG v (sumS (zN w r a) o (fb_ct (rpB w r) a)) * ((10 - x) ^ cntS o (fb_ct (rpB w r) a) * x ^ (fb_ct (rpB w r) a - cntS o (fb_ct (rpB w r) a))))) (nI (o + 1)) := by
  obtain ⟨ht1, ht2⟩ := row_tot hN hR B hr
  obtain ⟨⟨ha, -, hw6⟩, hPN, -⟩ := id B
  have ho512 : o < 512 := Nat.lt_of_lt_of_le ho (Nat.le_trans (Nat.pow_le_pow_right (by decide) ht2) (by decide))
  intro fu
  induction fu with
  | zero => intro i h1 h2; omega
  | succ fu ih =>
    intro i h1 h2
    rw [fX9_away_84]
    have hsl := sumS_le (z := zN w r a) (o := o) i
    by_cases h : i = fb_ct (rpB w r) a
    · subst h
      have hc9 := cntS_9 ht2 ho
      have hcl := fb_ct_le (fun k => o.testBit k) (fb_ct (rpB w r) a)
      have hcl' : cntS o (fb_ct (rpB w r) a) ≤ fb_ct (rpB w r) a := hcl
      rw [if_pos (nI_le (Nat.le_refl _) (by omega)), nI_1, on512 ho512, Option.bind_some, hc9, show (10 : Int32) = nI 10 from rfl, pk_sub hx, m_power _ (by omega), Option.bind_some, Option.bind_some, pk_sub hcl', m_power _ (by omega), Option.bind_some]
      unfold geG
      by_cases g : v ≤ sumS (zN w r a) o (fb_ct (rpB w r) a)
      · rw [if_neg (show ¬ nI (sumS (zN w r a) o (fb_ct (rpB w r) a)) < nI v from nI_nlt (by omega) (by omega)), if_pos g, Nat.one_mul, pk_mul]
      · rw [if_pos (nI_lt' (by omega) (by omega)), if_neg g, Nat.zero_mul]
        rfl
    · have ho30 : o < 1000 := by omega
      rw [if_neg (nI_ge (by omega) (by omega)), m_has ho30 (by omega), Option.bind_some, nI_1]
      have ih2 := ih (i + 1) (by omega) (by omega)
      cases hb : o.testBit i with
      | false =>
        rw [ib_f, pl0, Nat.add_zero]
        have e : sumS (zN w r a) o (i + 1) = sumS (zN w r a) o i := by
          unfold sumS
          rw [fb_sm_succ, hb]
          rfl
        rw [e] at ih2
        exact ih2
      | true =>
        obtain ⟨j, hj, hjr, hjc⟩ := fb_ct_kth (p := rpB w r) (k := i) (n := a) (by omega)
        have hpi := m_partyIn1 ha hw6 hj hjr
        rw [hjc] at hpi
        have hz := zN_at hj hjr
        rw [hjc] at hz
        have hsz : w (43 + 6 * (j + 1)) = nI (szN w j) := by
          obtain ⟨-, -, ⟨n, n1, n6, e⟩, -⟩ := hPN (j + 1) (by omega) (by omega)
          unfold szN
          rw [e, nI_clamp (by omega)]
        have e : sumS (zN w r a) o (i + 1) = sumS (zN w r a) o i + szN w j := by
          unfold sumS
          rw [fb_sm_succ, hb, if_pos rfl, hz]
        rw [ib_t, hpi, Option.bind_some, m_at (by omega), Option.bind_some, pl0, Nat.add_zero, if_neg (nI_in (by omega) (by decide)), nI_clamp (by omega), hsz, nI_add, ← e]
        exact ih2
theorem L_away {R : Nat} {N : Nat → Nat} {a q r x v : Nat} {pr fr sz lm pc pd qu : Nat → Int32} {ask wai fee tak : Int32} {w : Nat → Int32} (hN : ∀ r, r < R → N r ≤ 9) (hR : R ≤ 4) (B : BKg R N a 0 q q 0 pr fr sz lm pc pd qu ask wai fee tak w) (hr : r < R) (hx : x ≤ 10) (hv : v ≤ 9) (up : Int32) (wh : Int64) (wt : Nat → Int64) :
    ∃ (ans : Int32) (wh' : Int64) (wt' : Nat → Int64), (((fX2_begin wh wt)).bind fun q3 => fX8_away_46 FU (nI R) (nI a) sz pc q3.1 q3.2 (nI r) (nI v) (nI x) up 1) = some (ans, wh', wt') ∧ fX9_away_45 FU 0 (nI R) w (nI r) (nI v) (nI x) up 0 = some (ans, 0) := by
  obtain ⟨ht1, ht2⟩ := row_tot hN hR B hr
  obtain ⟨⟨ha, -, hw6⟩, hPN, -⟩ := id B
  have hp9 : (10 : Nat) ^ fb_ct (rpB w r) a ≤ 1000000000 := Nat.le_trans (Nat.pow_le_pow_right (by decide) ht2) (by decide)
  have hp0 : 0 < (10 : Nat) ^ fb_ct (rpB w r) a := Nat.pow_pos (by decide)
  have hEl : En x (10 - x) (zN w r a) (fb_ct (rpB w r) a) (geG v) ≤ 10 ^ fb_ct (rpB w r) a := by
    have h := En_le (x := x) (y := 10 - x) (z := zN w r a) (fb_ct (rpB w r) a) (geG v) (fun s => by unfold geG; by_cases g : v ≤ s <;> simp [g])
    rw [show x + (10 - x) = 10 by omega] at h
    exact h
  obtain ⟨ans, f1, f2⟩ := F_low (u := En x (10 - x) (zN w r a) (fb_ct (rpB w r) a) (geG v)) (d := 10 ^ fb_ct (rpB w r) a) (by omega) (by omega) hp0 up
  obtain ⟨wt0, b1, b2⟩ := c_begin wh wt
  have hC : ∀ fu j (wt : Nat → Int64), j ≤ a → a + 1 ≤ j + fu → (∀ i, i < 10 → wt i = lN (En x (10 - x) (zN w r a) (fb_ct (rpB w r) j) (eqG i))) → ∃ (wh' : Int64) (wt' : Nat → Int64), fX8_away_46 fu (nI R) (nI a) sz pc (lN (10 ^ fb_ct (rpB w r) j)) wt (nI r) (nI v) (nI x) up (nI (j + 1)) = some (ans, wh', wt') := by
    intro fu
    induction fu with
    | zero => intro j wt h1 h2; omega
    | succ fu ih =>
      intro j wt h1 h2 hw
      rw [fX8_away_46]
      unfold fX0_asked
      rw [Option.bind_some]
      by_cases e : j = a
      · subst e
        unfold fX2_whole
        rw [if_pos (nI_lt' (by omega) (by omega)), c_atLeast hv ht1 hw, Option.bind_some, Option.bind_some, f1, Option.bind_some]
        exact ⟨_, _, rfl⟩
      · rw [if_neg (show ¬ nI a < nI (j + 1) from nI_nlt (by omega) (by omega)), c_isSeated ha (by omega) (by omega), Option.bind_some, decide_eq_decide.mpr (seated_iff hR hN B (p := j + 1) (by omega) (by omega) (by omega)), nI_1]
        by_cases hst : w (45 + 6 * (j + 1)) = nI 1
        · obtain ⟨n, r', s', n1, n6, e1, e2, e3, e4, e5, e6, e7, e8, e9⟩ := seated_at hN B (p := j + 1) (by omega) (by omega) (by omega) hst
          have hN' := hN r' e3
          rw [decide_eq_true hst, ib_t, c_placeOf ha (by omega) (by omega), Option.bind_some, e7, c_rowOf (by omega) (by omega), Option.bind_some]
          by_cases hrr : r' = r
          · subst hrr
            have hrp : rpB w r' j = true := decide_eq_true ⟨hst, e5⟩
            have hsz : szN w j = n := by
              unfold szN
              rw [e1, nI_clamp (by omega)]
            have hz := zN_at (show j < a by omega) hrp
            rw [hsz] at hz
            obtain ⟨wt', a1, a2⟩ := c_add (wh := lN (10 ^ fb_ct (rpB w r') j)) hx n1 n6 hz hw
            rw [if_pos rfl, c_sizeOf ha (by omega) (by omega), Option.bind_some, e2, a1, Option.bind_some]
            have ih2 := ih (j + 1) wt' (by omega) (by omega) (by rw [fb_ct_succ, hrp, if_pos rfl]; exact a2)
            rw [fb_ct_succ, hrp, if_pos rfl, Nat.pow_succ, ← lN_mul] at ih2
            exact ih2
          · have hrp : rpB w r j = false := decide_eq_false (fun h => hrr (nI_inj (by omega) (by omega) (e5.symm.trans h.2)))
            rw [if_neg (fun g => hrr (nI_inj (by omega) (by omega) g))]
            have ih2 := ih (j + 1) wt (by omega) (by omega) (by rw [fb_ct_succ, hrp]; exact hw)
            rw [fb_ct_succ, hrp] at ih2
            exact ih2
        · have hrp : rpB w r j = false := decide_eq_false (fun h => hst h.1)
          rw [decide_eq_false hst, ib_f]
          have ih2 := ih (j + 1) wt (by omega) (by omega) (by rw [fb_ct_succ, hrp]; exact hw)
          rw [fb_ct_succ, hrp] at ih2
          exact ih2
  obtain ⟨wh', wt', hc⟩ := hC FU 0 wt0 (by omega) (by have := FU_ge (k := 50) (by decide); omega) b2
  have hM69 : ∀ m o fu, o + m = 2 ^ fb_ct (rpB w r) a → m + 1 ≤ fu → fX9_away_69 fu 0 (nI R) w (nI r) (nI v) (nI x) up (nI (fb_ct (rpB w r) a)) (nI (fb_sm (fun o => geG v (sumS (zN w r a) o (fb_ct (rpB w r) a)) * ((10 - x) ^ cntS o (fb_ct (rpB w r) a) * x ^ (fb_ct (rpB w r) a - cntS o (fb_ct (rpB w r) a)))) o)) (nI o) = some (ans, 0) := by
    have p512 : 2 ^ fb_ct (rpB w r) a ≤ 512 := Nat.le_trans (Nat.pow_le_pow_right (by decide) ht2) (by decide)
    intro m
    induction m with
    | zero =>
      intro o fu ho hfu
      obtain ⟨fu, rfl⟩ : ∃ z, fu = z + 1 := ⟨fu - 1, by omega⟩
      have ho2 : o = 2 ^ fb_ct (rpB w r) a := by omega
      subst ho2
      rw [fX9_away_69, sh1 _ (by omega), if_pos (nI_le' (Nat.le_refl _) (by omega)), show (10 : Int32) = nI 10 from rfl, m_power 10 ht2, Option.bind_some, En_sets, f2, Option.bind_some]
    | succ m ih =>
      intro o fu ho hfu
      obtain ⟨fu, rfl⟩ : ∃ z, fu = z + 1 := ⟨fu - 1, by omega⟩
      rw [fX9_away_69, sh1 _ (by omega), if_neg (nI_ge (by omega) (by omega))]
      have h84 := m_awayIn hN hR B hr hx hv (o := o) (by omega) (fX9_away_69 fu) (th := 0) (rr := nI R) (x4 := up) (x6 := nI (fb_sm (fun o => geG v (sumS (zN w r a) o (fb_ct (rpB w r) a)) * ((10 - x) ^ cntS o (fb_ct (rpB w r) a) * x ^ (fb_ct (rpB w r) a - cntS o (fb_ct (rpB w r) a)))) o)) FU 0 (by omega) (by have := FU_ge (k := 50) (by decide); omega)
      rw [show sumS (zN w r a) o 0 = 0 from rfl, show nI 0 = (0 : Int32) from rfl] at h84
      rw [h84, nI_add]
      exact ih (o + 1) fu (by omega) (by omega)
  have hM45 : ∀ m i fu, i + m = fb_ct (rpB w r) a → m + 1 ≤ fu → fX9_away_45 fu 0 (nI R) w (nI r) (nI v) (nI x) up (nI i) = some (ans, 0) := by
    have p512 : 2 ^ fb_ct (rpB w r) a ≤ 512 := Nat.le_trans (Nat.pow_le_pow_right (by decide) ht2) (by decide)
    intro m
    induction m with
    | zero =>
      intro i fu hi hfu
      obtain ⟨fu, rfl⟩ : ∃ z, fu = z + 1 := ⟨fu - 1, by omega⟩
      have hi2 : i = fb_ct (rpB w r) a := by omega
      subst hi2
      rw [fX9_away_45, m_partyIn0 ha hw6, Option.bind_some, if_pos rfl]
      have h := hM69 (2 ^ fb_ct (rpB w r) a) 0 FU (by omega) (by have := FU_ge (k := 600) (by decide); omega)
      rw [show nI (fb_sm (fun o => geG v (sumS (zN w r a) o (fb_ct (rpB w r) a)) * ((10 - x) ^ cntS o (fb_ct (rpB w r) a) * x ^ (fb_ct (rpB w r) a - cntS o (fb_ct (rpB w r) a)))) 0) = (0 : Int32) from rfl, show nI 0 = (0 : Int32) from rfl] at h
      exact h
    | succ m ih =>
      intro i fu hi hfu
      obtain ⟨fu, rfl⟩ : ∃ z, fu = z + 1 := ⟨fu - 1, by omega⟩
      obtain ⟨j, hj, hjr, hjc⟩ := fb_ct_kth (p := rpB w r) (k := i) (n := a) (by omega)
      have hpi := m_partyIn1 ha hw6 hj hjr
      rw [hjc] at hpi
      rw [fX9_away_45, hpi, Option.bind_some, if_neg (m9 (by omega)), nI_1]
      exact ih (i + 1) fu (by omega) (by omega)
  refine ⟨ans, wh', wt', ?_, ?_⟩
  · rw [b1, Option.bind_some]
    exact hc
  · exact hM45 (fb_ct (rpB w r) a) 0 FU (by omega) (by have := FU_ge (k := 50) (by decide); omega)
theorem O_away {R : Nat} {N : Nat → Nat} {pr fr sz lm pc pd qu w : Nat → Int32} {ask wai fee tak : Int32} (hR : R ≤ 4) (hN : ∀ r, r < R → N r ≤ 9) (B : BK R N pr fr sz lm pc pd qu ask wai fee tak w) (wh : Int64) (wt : Nat → Int64) (th x1 x2 x3 x4 : Int32) :
    ∃ (ans : Int32) (wh' : Int64) (wt' : Nat → Int64), fX8_away (nI R) ask sz pc wh wt x1 x2 x3 x4 = some (ans, wh', wt') ∧ fX9_away th (nI R) w x1 x2 x3 x4 = some (ans, 0) := by
  obtain ⟨a, q, B⟩ := B
  obtain ⟨⟨ha, hask, hw6⟩, -⟩ := id B
  subst hask
  unfold fX8_away fX9_away
  rw [c_hasRowQ, Option.bind_some, m_noRow (by omega), Option.bind_some, m_in09, Option.bind_some, show fX9_in x3.toInt64 (0 : Int64) (10 : Int64) = some (bI (inR x3 0 10)) from m_inR x3 0 10, Option.bind_some]
  cases hr : inQ x1 R with
  | false =>
    rw [ib_f, Bool.not_false, ib_t]
    exact ⟨_, _, _, rfl, rfl⟩
  | true =>
    obtain ⟨r, hrR, rfl⟩ := inQ_at (by omega) hr
    rw [ib_t, Bool.not_true, ib_f]
    have e9 : ∀ (α : Type) (y z : α), (if x2 < (0 : Int32) then y else if (9 : Int32) < x2 then y else z) = (if bI (inR x2 0 9) = 0 then y else z) := fun α y z => by
      unfold inR
      by_cases g1 : x2 < 0
      · rw [if_pos g1, decide_eq_false (fun h => by have := (fa_lt _ _).mp g1; have := (fa_le _ _).mp h.1; have e : (nI 0).toInt = (0 : Int32).toInt := rfl; omega), ib_f]
      · rw [if_neg g1]
        by_cases g2 : (9 : Int32) < x2
        · rw [if_pos g2, decide_eq_false (fun h => by have := (fa_lt _ _).mp g2; have := (fa_le _ _).mp h.2; have e : (nI 9).toInt = (9 : Int32).toInt := rfl; omega), ib_f]
        · rw [if_neg g2, decide_eq_true ⟨fa_of_nlt (b := nI 0) g1, fa_of_nlt (a := nI 9) g2⟩, ib_t]
    have e10 : ∀ (α : Type) (y z : α), (if x3 < (0 : Int32) then y else if x3 ≤ (10 : Int32) then z else y) = (if bI (inR x3 0 10) = 0 then y else z) := fun α y z => c_rgP (lo := 0) (hi := 10) y z
    rw [e9, e10]
    cases hv : inR x2 0 9 with
    | false =>
      rw [ib_f, ib_f]
      exact ⟨_, _, _, rfl, rfl⟩
    | true =>
      obtain ⟨v, -, v9, rfl⟩ := inR_at (by decide) (by decide) hv
      rw [ib_t, ib_t]
      cases hx : inR x3 0 10 with
      | false =>
        rw [ib_f, ib_f]
        exact ⟨_, _, _, rfl, rfl⟩
      | true =>
        obtain ⟨x, -, x10, rfl⟩ := inR_at (by decide) (by decide) hx
        rw [ib_t, ib_t]
        exact L_away hN hR B hrR x10 v9 x4 wh wt
