/-! lowest terms; shares -/
theorem gcd_half {r s : Nat} (hs : 0 < s) (h : s < r) : 2 * (r % s) < r := by
  by_cases c : 2 * s ≤ r
  · have := Nat.mod_lt r hs
    omega
  · have e : r % s = r - s := by
      rw [Nat.mod_eq_sub_mod (by omega), Nat.mod_eq_of_lt (by omega)]
    omega
theorem c_gcd {x0 x2 : Int64} {x4 : Int32} : ∀ k fu i D r, r < 2 ^ k → r < 2 ^ 62 → D < 2 ^ 62 → i + 2 * k ≤ 100 → 2 * k + 1 ≤ fu → fX8_lowestTerms_9 fu x0 x2 x4 (lN D) (lN r) (nI i) = fX8_lowestTerms_44 x0 x2 x4 (lN (Nat.gcd r D)) := by
  have fin : ∀ fu i D, i ≤ 1000 → fX8_lowestTerms_9 (fu + 1) x0 x2 x4 (lN D) (lN 0) (nI i) = fX8_lowestTerms_44 x0 x2 x4 (lN D) := fun fu i D hi => by
    rw [fX8_lowestTerms_9, if_pos (show lg_cmp (lN 0) (0 : Int64) = 0 from rfl)]
    by_cases c : (100 : Int32) ≤ nI i
    · rw [if_pos c]
    · rw [if_neg c]
  intro k
  induction k with
  | zero =>
    intro fu i D r h1 h2 h3 h4 h5
    obtain ⟨fu, rfl⟩ : ∃ z, fu = z + 1 := ⟨fu - 1, by omega⟩
    have hr : r = 0 := by
      rw [Nat.pow_zero] at h1
      omega
    subst hr
    rw [fin fu i D (by omega), Nat.gcd_zero_left]
  | succ k ih =>
    intro fu i D r h1 h2 h3 h4 h5
    obtain ⟨fu, rfl⟩ : ∃ z, fu = z + 1 + 1 := ⟨fu - 2, by omega⟩
    by_cases r0 : r = 0
    · subst r0
      rw [fin (fu + 1) i D (by omega), Nat.gcd_zero_left]
    · have ne : ∀ z, z < 2 ^ 62 → z ≠ 0 → ¬ lN z = (0 : Int64) := fun z hz h e => h ((pk_lEQ (b := 0) (by omega) (by decide)).mp e)
      have step : ∀ f j E z, j < 100 → E < 2 ^ 62 → z < 2 ^ 62 → z ≠ 0 → fX8_lowestTerms_9 (f + 1) x0 x2 x4 (lN E) (lN z) (nI j) = fX8_lowestTerms_9 f x0 x2 x4 (lN z) (lN (E % z)) (nI (j + 1)) := fun f j E z hj hE hz h => by
        rw [fX8_lowestTerms_9, if_neg (show ¬ (100 : Int32) ≤ nI j from nI_ge (b := 100) hj (by decide)), if_neg (fun e => ne z hz h ((lg_cmp_eq _ _).mp e)), if_neg (ne z hz h), pk_lRem (by omega) (by omega) (by omega), nI_1]
      rw [step (fu + 1) i D r (by omega) h3 h2 r0, Nat.gcd_rec]
      have hs : D % r < r := Nat.mod_lt _ (by omega)
      generalize D % r = s at hs
      by_cases s0 : s = 0
      · subst s0
        rw [fin fu (i + 1) r (by omega), Nat.gcd_zero_left]
      · have hh := gcd_half (by omega) hs
        rw [step fu (i + 1) r s (by omega) h2 (by omega) s0, Nat.gcd_rec]
        rw [Nat.pow_succ] at h1
        exact ih fu (i + 1 + 1) s (r % s) (by omega) (by omega) (by omega) (by omega) (by omega)
theorem m_gcd : ∀ k fu p q, q < 2 ^ k → q < 2 ^ 31 → p < 2 ^ 31 → 2 * k + 1 ≤ fu → fX9_divisor_13 fu (nI p) (nI q) = some (nI (Nat.gcd q p)) := by
  have fin : ∀ fu p, fX9_divisor_13 (fu + 1) (nI p) (nI 0) = some (nI p) := fun fu p => by
    rw [fX9_divisor_13, if_pos (show nI 0 = (0 : Int32) from rfl)]
  intro k
  induction k with
  | zero =>
    intro fu p q h1 h2 h3 h5
    obtain ⟨fu, rfl⟩ : ∃ z, fu = z + 1 := ⟨fu - 1, by omega⟩
    have hr : q = 0 := by
      rw [Nat.pow_zero] at h1
      omega
    subst hr
    rw [fin fu p, Nat.gcd_zero_left]
  | succ k ih =>
    intro fu p q h1 h2 h3 h5
    obtain ⟨fu, rfl⟩ : ∃ z, fu = z + 1 + 1 := ⟨fu - 2, by omega⟩
    by_cases r0 : q = 0
    · subst r0
      rw [fin (fu + 1) p, Nat.gcd_zero_left]
    · have ne : ∀ z, z < 2 ^ 31 → z ≠ 0 → ¬ nI z = (0 : Int32) := fun z hz h e => h ((eq0 hz).mp e)
      have step : ∀ f E z, E < 2 ^ 31 → z < 2 ^ 31 → z ≠ 0 → fX9_divisor_13 (f + 1) (nI E) (nI z) = fX9_divisor_13 f (nI z) (nI (E % z)) := fun f E z hE hz h => by
        rw [fX9_divisor_13, if_neg (ne z hz h), if_neg (ne z hz h), pk_rem hE (by omega) hz]
      rw [step (fu + 1) p q h3 h2 r0, Nat.gcd_rec]
      have hs : p % q < q := Nat.mod_lt _ (by omega)
      generalize p % q = s at hs
      by_cases s0 : s = 0
      · subst s0
        rw [fin fu q, Nat.gcd_zero_left]
      · have hh := gcd_half (by omega) hs
        rw [step fu q s h2 (by omega) s0, Nat.gcd_rec]
        rw [Nat.pow_succ] at h1
        exact ih fu s (q % s) (by omega) (by omega) (by omega) (by omega)
theorem F_low {u d : Nat} (hu : u < 2 ^ 31) (hd : d < 2 ^ 31) (d0 : 0 < d) (up : Int32) : ∃ ans : Int32, fX8_lowestTerms (lN u) (lN d) up = some ans ∧ fX9_fraction (nI u) (nI d) up = some ans := by
  have hg0 : 0 < Nat.gcd u d := Nat.gcd_pos_of_pos_right _ d0
  have hgl : Nat.gcd u d ≤ d := Nat.gcd_le_right _ d0
  have e1 : fX8_lowestTerms (lN u) (lN d) up = fX8_lowestTerms_44 (lN u) (lN d) up (lN (Nat.gcd u d)) := c_gcd 31 FU 0 d u (by omega) (by omega) (by omega) (by omega) (by have := FU_ge (k := 100) (by decide); omega)
  have e2 : fX9_divisor (nI u) (nI d) = some (nI (Nat.gcd u d)) := by
    unfold fX9_divisor
    rw [if_pos (show (0 : Int32) ≤ nI u from nI_le' (a := 0) (by omega) hu), m_gcd 31 FU u d (by omega) hd hu (by have := FU_ge (k := 100) (by decide); omega), Nat.gcd_comm]
  rw [e1]
  unfold fX8_lowestTerms_44 fX9_fraction
  rw [e2, Option.bind_some, if_pos (show 0 < lg_cmp (lN (Nat.gcd u d)) (0 : Int64) from (lg_cmp_gt _ _).mpr ((pk_lLT (a := 0) (by decide) (by omega)).mpr hg0))]
  have n1 : ¬ lN (Nat.gcd u d) = (0 : Int64) := fun e => by have := (pk_lEQ (b := 0) (by omega) (by decide)).mp e; omega
  have n2 : ¬ nI (Nat.gcd u d) = (0 : Int32) := fun e => by have := (eq0 (by omega)).mp e; omega
  by_cases c : up = 0
  · rw [if_pos c, if_pos c, if_neg n1, if_neg n2, pk_lDiv (by omega) hg0 (by omega), lN_i, pk_div (by omega) hg0 (by omega)]
    exact ⟨_, rfl, rfl⟩
  · rw [if_neg c, if_neg c, if_neg n1, if_neg n2, pk_lDiv (by omega) hg0 (by omega), lN_i, pk_div (by omega) hg0 (by omega)]
    exact ⟨_, rfl, rfl⟩
/-- the best quality grows with the open rows -/
theorem accC_up {A : Acc} {pl q p : Nat} (h : A.1 = 0 → A.2.2.1 = 0) : A.2.2.1 ≤ (accC A pl q p).2.2.1 ∧ q ≤ (accC A pl q p).2.2.1 ∧ (accC A pl q p).1 ≠ 0 := by
  unfold accC
  by_cases c : A.1 = 0 ∨ A.2.2.1 < q ∨ (q = A.2.2.1 ∧ p < A.2.2.2)
  · rw [if_pos c]
    refine ⟨?_, Nat.le_refl _, Nat.succ_ne_zero _⟩
    show A.2.2.1 ≤ q
    rcases c with c | c | c
    · rw [h c]; omega
    · omega
    · omega
  · rw [if_neg c]
    refine ⟨Nat.le_refl _, ?_, Nat.succ_ne_zero _⟩
    show q ≤ A.2.2.1
    have : ¬ A.2.2.1 < q := fun g => c (Or.inr (Or.inl g))
    omega
theorem rowS_up {ok : Nat → Bool} {qu : Nat → Nat} {r p : Nat} {A : Acc} (h : A.1 = 0 → A.2.2.1 = 0) (n : Nat) : ((rowS ok qu r p A n).1 = 0 → (rowS ok qu r p A n).2.2.1 = 0) ∧ A.2.2.1 ≤ (rowS ok qu r p A n).2.2.1 ∧ ∀ s, s < n → ok s = true → qu s ≤ (rowS ok qu r p A n).2.2.1 := by
  induction n with
  | zero => exact ⟨h, Nat.le_refl _, fun s hs => by omega⟩
  | succ n ih =>
    obtain ⟨i1, i2, i3⟩ := ih
    rw [rowS]
    by_cases c : ok n = true
    · rw [if_pos c]
      obtain ⟨a1, a2, a3⟩ := accC_up (pl := 10 * r + n) (q := qu n) (p := p) i1
      refine ⟨fun g => absurd g a3, by omega, fun s hs hok => ?_⟩
      by_cases e : s = n
      · subst e; exact a2
      · have := i3 s (by omega) hok
        omega
    · rw [if_neg c]
      refine ⟨i1, i2, fun s hs hok => ?_⟩
      by_cases e : s = n
      · subst e; exact absurd hok c
      · exact i3 s (by omega) hok
theorem allS_up {op : Nat → Bool} {ok : Nat → Nat → Bool} {qu : Nat → Nat → Nat} {N p : Nat → Nat} (R : Nat) : ((allS op ok qu N p R).1 = 0 → (allS op ok qu N p R).2.2.1 = 0) ∧ ∀ r, r < R → op r = true → ∀ s, s < N r → ok r s = true → qu r s ≤ (allS op ok qu N p R).2.2.1 := by
  induction R with
  | zero => exact ⟨fun _ => rfl, fun r hr => by omega⟩
  | succ R ih =>
    obtain ⟨i1, i2⟩ := ih
    rw [allS]
    by_cases c : op R = true
    · rw [if_pos c]
      obtain ⟨a1, a2, a3⟩ := rowS_up (ok := ok R) (qu := qu R) (r := R) (p := p R) i1 (N R)
      refine ⟨a1, fun r hr ho s hs hok => ?_⟩
      by_cases e : r = R
      · subst e; exact a3 s hs hok
      · have := i2 r (by omega) ho s hs hok
        omega
    · rw [if_neg c]
      refine ⟨i1, fun r hr ho s hs hok => ?_⟩
      by_cases e : r = R
      · subst e; exact absurd ho c
      · exact i2 r (by omega) ho s hs hok
theorem best_mono {R : Nat} {N : Nat → Nat} {J F : Nat → Nat → Bool} {vw : Nat → Nat → Nat} {p : Nat → Nat} {n lim o o' : Nat} {d : Int} (n1 : 1 ≤ n) (h : ∀ r, r < R → o.testBit r = true → o'.testBit r = true) : (bestS R N J F vw p n lim o d).2.2.1 ≤ (bestS R N J F vw p n lim o' d).2.2.1 := by
  obtain ⟨u1, u2⟩ := allS_up (op := opS o' lim p) (ok := okS N J F n d) (qu := quS vw n) (N := N) (p := p) R
  obtain ⟨v1, v2⟩ := allS_up (op := opS o lim p) (ok := okS N J F n d) (qu := quS vw n) (N := N) (p := p) R
  by_cases c : (bestS R N J F vw p n lim o d).1 = 0
  · have e : (bestS R N J F vw p n lim o d).2.2.1 = 0 := v1 c
    rw [e]
    omega
  · obtain ⟨r, s, g1, g2, g3, g4, g5⟩ := allS_at (P := fun A => ∃ r s, r < R ∧ opS o lim p r = true ∧ okS N J F n d r s = true ∧ s < N r ∧ A.2.2.1 = quS vw n r s) (op := opS o lim p) (ok := okS N J F n d) (qu := quS vw n) (N := N) (p := p) R (fun B r s hr ho hs => by
      refine ⟨r, s, hr, ho, hs, ?_, rfl⟩
      unfold okS okR at hs
      by_cases c : s + n ≤ N r
      · omega
      · rw [decide_eq_false c] at hs; cases hs) (fun B hB => hB) c
    have e : (bestS R N J F vw p n lim o d).2.2.1 = quS vw n r s := g5
    rw [e]
    refine u2 r g1 ?_ s g4 g3
    unfold opS at g2 ⊢
    rw [Bool.and_eq_true] at g2 ⊢
    exact ⟨h r g1 g2.1, g2.2⟩
def facT : Nat → Nat
  | 0 => 1
  | 1 => 1
  | 2 => 2
  | 3 => 6
  | _ => 24
theorem le4 {k : Nat} (h : k ≤ 4) : k = 0 ∨ k = 1 ∨ k = 2 ∨ k = 3 ∨ k = 4 := by omega
theorem facT_b (k : Nat) : 1 ≤ facT k ∧ facT k ≤ 24 := by
  unfold facT
  split <;> decide
theorem c_fac {k : Nat} (h : k ≤ 4) : fX8_factorial (nI k) = some (nI (facT k)) := by
  unfold fX8_factorial
  rw [if_neg (nI_pos (by omega)), if_neg (show ¬ (5 : Int32) ≤ nI k from nI_ge (b := 5) (by omega) (by decide)), if_neg (nI_in (by omega) (by decide)), nI_clamp (by omega)]
  rcases le4 h with rfl | rfl | rfl | rfl | rfl <;> rfl
theorem m_facL (fu : Nat) : (∀ k, k ≤ 1 → fX9_factorial_4 (fu + 4) (nI k) 1 2 = some 1) ∧ fX9_factorial_4 (fu + 4) (nI 2) 1 2 = some 2 ∧ fX9_factorial_4 (fu + 4) (nI 3) 1 2 = some 6 ∧ fX9_factorial_4 (fu + 4) (nI 4) 1 2 = some 24 := by
  refine ⟨fun k hk => ?_, ?_, ?_, ?_⟩
  · rw [fX9_factorial_4, if_pos (show nI k < (2 : Int32) from nI_lt' (b := 2) (by omega) (by decide))]
  · rw [fX9_factorial_4, if_neg (by decide), fX9_factorial_4, if_pos (by decide)]
    rfl
  · rw [fX9_factorial_4, if_neg (by decide), fX9_factorial_4, if_neg (by decide), fX9_factorial_4, if_pos (by decide)]
    rfl
  · rw [fX9_factorial_4, if_neg (by decide), fX9_factorial_4, if_neg (by decide), fX9_factorial_4, if_neg (by decide), fX9_factorial_4, if_pos (by decide)]
    rfl
theorem m_fac {k : Nat} (h : k ≤ 4) : fX9_factorial (nI k) = some (nI (facT k)) := by
  unfold fX9_factorial
  obtain ⟨fu, e⟩ : ∃ fu, FU = fu + 4 := ⟨FU - 4, by have := FU_ge (k := 4) (by decide); omega⟩
  rw [e]
  obtain ⟨h1, h2, h3, h4⟩ := m_facL fu
  rcases le4 h with rfl | rfl | rfl | rfl | rfl
  · exact h1 0 (by omega)
  · exact h1 1 (by omega)
  · exact h2
  · exact h3
  · exact h4
theorem ones_row : ∀ R, R ≤ 4 → ∀ r, r < R → ∀ o, o < 2 ^ R → o.testBit r = false → fb_ct (fun i => o.testBit i) 9 + 1 ≤ R := by decide +kernel
/-- the quality with some rows open -/
def qW (R : Nat) (N : Nat → Nat) (al : Nat → Nat → Bool) (vw : Nat → Nat → Nat) (w : Nat → Int32) (n o : Nat) : Nat := (bestS R N (JA N al) (FA N w) vw (pv w) n 9 o 0).2.2.1
theorem c_qW {R : Nat} {N : Nat → Nat} {al : Nat → Nat → Bool} {vw : Nat → Nat → Nat} {se jo vi : Nat → Int32} (H : HallP R N al vw se jo vi) {pr fr w : Nat → Int32} (B : FrR R N pr fr w) {n o : Nat} (h1 : 1 ≤ n) (hn : n ≤ 6) (ho : o < 16) (f1 f2 f3 f4 : Int32) : ∃ g1 g2 g3 g4, fX8_qualityWith (nI R) se jo vi pr fr f1 f2 f3 f4 (nI o) (nI n) = some (nI (qW R N al vw w n o), g1, g2, g3, g4) := by
  have hl : fX1_look f1 f2 f3 f4 (nI R) se jo vi pr fr (nI n) (9 : Int32) 0 (nI o) = _ := F_look H B (lim := 9) h1 hn (by omega) ho f1 f2 f3 f4
  unfold fX8_qualityWith fX1_quality
  rw [hl, Option.bind_some, Option.bind_some]
  exact ⟨_, _, _, _, rfl⟩
theorem m_qW {R : Nat} {N : Nat → Nat} {al : Nat → Nat → Bool} {vw : Nat → Nat → Nat} {se jo vi mn am vm : Nat → Int32} (H : HallP R N al vw se jo vi) (HM : HallM R N al vw mn am vm) {pr fr w : Nat → Int32} (B : FrR R N pr fr w) {n o : Nat} (h1 : 1 ≤ n) (hn : n ≤ 6) (ho : o < 16) (f1 f2 f3 : Int32) : ∃ k1 k2 k3, fX9_viewsBy (nI R) f1 f2 f3 mn vm am w (nI o) (nI n) = some (nI (qW R N al vw w n o), k1, k2, k3, w) := by
  have hl : fX9_findPlace (nI R) f1 f2 f3 mn vm am w (nI n) (9 : Int32) (nI o) (nI (fb_sm (loneW N al w) R)) = _ := F_place HM B (lim := 9) h1 hn (by omega) ho f1 f2 f3
  have hok := F_ok H B hn 9 o 0
  unfold fX9_viewsBy
  rw [m_allLone HM, Option.bind_some, hl, Option.bind_some]
  dsimp only
  by_cases c : (bestS R N (JA N al) (FA N w) vw (pv w) n 9 o 0).1 = 0
  · have e : qW R N al vw w n o = 0 := (allS_up (op := opS o 9 (pv w)) (ok := okS N (JA N al) (FA N w) n 0) (qu := quS vw n) (N := N) (p := pv w) R).1 c
    rw [if_pos ((le0 (by have := hok.1; omega)).mpr c), e]
    exact ⟨_, _, _, rfl⟩
  · rw [if_neg (fun g => c ((le0 (by have := hok.1; omega)).mp g))]
    unfold fvI
    rw [if_neg c]
    exact ⟨_, _, _, rfl⟩
theorem L_share {R : Nat} {N : Nat → Nat} {al : Nat → Nat → Bool} {vw : Nat → Nat → Nat} {se jo vi mn am vm : Nat → Int32} (H : HallP R N al vw se jo vi) (HM : HallM R N al vw mn am vm) {pr fr w : Nat → Int32} (B : FrR R N pr fr w) {n r : Nat} (n1 : 1 ≤ n) (n6 : n ≤ 6) (hr : r < R) (up : Int32) :
    ∀ (m o fu S : Nat) (f1 f2 f3 f4 h1 h2 h3 : Int32), o + m = 2 ^ R → m + 1 ≤ fu → S ≤ 2400 * o →
    ∃ (ans g1 g2 g3 g4 k1 k2 k3 : Int32), fX8_share_43 fu (nI R) se jo vi pr fr f1 f2 f3 f4 (nI n) up (nI R) (nI (2 ^ r)) (lN S) (nI o) = some (ans, g1, g2, g3, g4) ∧ fX9_share_36 fu 0 (nI R) h1 h2 h3 mn vm am w (nI r) (nI n) up (nI S) (nI o) = some (ans, 0, k1, k2, k3, w) := by
  have hR := H.1
  have p16 : 2 ^ R ≤ 16 := Nat.pow_le_pow_right (n := 2) (by decide) hR
  have pr16 : 2 ^ r < 2 ^ R := Nat.pow_lt_pow_right (by decide) hr
  have hsh : ((1 : Int32) <<< (nI R &&& 31)) = nI (2 ^ R) := sh1 R (by omega)
  have hshr : ((1 : Int32) <<< (nI r &&& 31)) = nI (2 ^ r) := sh1 r (by omega)
  intro m
  induction m with
  | zero =>
    intro o fu S f1 f2 f3 f4 h1 h2 h3 ho hfu hS
    obtain ⟨fu, rfl⟩ : ∃ z, fu = z + 1 := ⟨fu - 1, by omega⟩
    have ho2 : o = 2 ^ R := by omega
    subst ho2
    have hb := facT_b R
    obtain ⟨ans, e1, e2⟩ := F_low (u := S) (d := facT R) (by omega) (by omega) (by omega) up
    rw [fX8_share_43, fX9_share_36, hsh, if_pos (nI_le' (Nat.le_refl _) (by omega)), if_pos (nI_le' (Nat.le_refl _) (by omega)), c_fac hR, Option.bind_some, m_fac hR, Option.bind_some, nI_l (by omega), e1, Option.bind_some, e2, Option.bind_some]
    exact ⟨_, _, _, _, _, _, _, _, rfl, rfl⟩
  | succ m ih =>
    intro o fu S f1 f2 f3 f4 h1 h2 h3 ho hfu hS
    obtain ⟨fu, rfl⟩ : ∃ z, fu = z + 1 := ⟨fu - 1, by omega⟩
    rw [fX8_share_43, fX9_share_36, hsh, if_neg (show ¬ nI (2 ^ R) ≤ nI o from nI_ge (by omega) (by omega)), if_neg (show ¬ nI (2 ^ R) ≤ nI o from nI_ge (by omega) (by omega)), on512 (by omega), Option.bind_some, m_has (by omega) (by omega), Option.bind_some, hshr, nI_1]
    cases hb : o.testBit r with
    | true =>
      rw [if_neg (fun e => by rw [(fa_bit (by omega)).mp e] at hb; cases hb), ib_t, pl0, Nat.add_zero]
      exact ih (o + 1) fu S _ _ _ _ _ _ _ (by omega) (by omega) (by omega)
    | false =>
      have hones := ones_row R hR r hr o (by omega) hb
      have hor : o ||| 2 ^ r < 2 ^ 4 := Nat.or_lt_two_pow (by omega) (by omega)
      rw [if_pos ((fa_bit (by omega)).mpr hb), ib_f, bc512 o (by omega), Option.bind_some, fa_or]
      have e1 : nI R - (1 : Int32) - nI (fb_ct (fun i => o.testBit i) 9) = nI (R - 1 - fb_ct (fun i => o.testBit i) 9) := by
        rw [show (1 : Int32) = nI 1 from rfl, sub1 (by omega), pk_sub (by omega)]
      have b1 := facT_b (fb_ct (fun i => o.testBit i) 9)
      have b2 := facT_b (R - 1 - fb_ct (fun i => o.testBit i) 9)
      rw [e1, c_fac (by omega), Option.bind_some, c_fac (by omega), Option.bind_some, m_fac (by omega), Option.bind_some, m_fac (by omega), Option.bind_some]
      obtain ⟨g1, g2, g3, g4, ea⟩ := c_qW H B (n := n) (o := o ||| 2 ^ r) n1 n6 (by omega) f1 f2 f3 f4
      obtain ⟨g1', g2', g3', g4', eb⟩ := c_qW H B (n := n) (o := o) n1 n6 (by omega) g1 g2 g3 g4
      obtain ⟨k1, k2, k3, ec⟩ := m_qW H HM B (n := n) (o := o ||| 2 ^ r) n1 n6 (by omega) h1 h2 h3
      obtain ⟨k1', k2', k3', ed⟩ := m_qW H HM B (n := n) (o := o) n1 n6 (by omega) k1 k2 k3
      have hmono : qW R N al vw w n o ≤ qW R N al vw w n (o ||| 2 ^ r) := best_mono n1 (fun i hi g => by rw [Nat.testBit_or, g, Bool.true_or])
      have hq : qW R N al vw w n (o ||| 2 ^ r) < 100 := (F_ok H B n6 9 (o ||| 2 ^ r) 0).2.2.1
      rw [ea, Option.bind_some, ec, Option.bind_some]
      dsimp only
      rw [eb, Option.bind_some, ed, Option.bind_some]
      dsimp only
      rw [pk_sub hmono, pk_mul, pk_mul, nI_l (by have := Nat.mul_le_mul b1.2 b2.2; omega), nI_l (by omega), lN_mul, lN_add, nI_add]
      refine ih (o + 1) fu _ _ _ _ _ _ _ _ (by omega) (by omega) ?_
      generalize hf : facT (fb_ct (fun i => o.testBit i) 9) * facT (R - 1 - fb_ct (fun i => o.testBit i) 9) = ff
      have hfac : ff ≤ 24 := by
        rw [← hf]
        have hc : ∀ R, R ≤ 4 → ∀ c, c < R → facT c * facT (R - 1 - c) ≤ 24 := by decide
        exact hc R hR _ (by omega)
      have := Nat.mul_le_mul hfac (show qW R N al vw w n (o ||| 2 ^ r) - qW R N al vw w n o ≤ 100 by omega)
      omega
theorem O_share {R : Nat} {N : Nat → Nat} {al : Nat → Nat → Bool} {vw : Nat → Nat → Nat} {se jo vi mn am vm : Nat → Int32} (H : HallP R N al vw se jo vi) (HM : HallM R N al vw mn am vm) {pr fr sz lm pc pd qu w : Nat → Int32} {ask wai fee tak : Int32} (B : BK R N pr fr sz lm pc pd qu ask wai fee tak w) (f1 f2 f3 f4 th h1 h2 h3 x1 x2 x3 : Int32) :
    ∃ (ans g1 g2 g3 g4 k1 k2 k3 : Int32), fX8_share (nI R) se jo vi pr fr f1 f2 f3 f4 x1 x2 x3 = some (ans, g1, g2, g3, g4) ∧ fX9_share th (nI R) h1 h2 h3 mn vm am w x1 x2 x3 = some (ans, 0, k1, k2, k3, w) := by
  have hR := H.1
  obtain ⟨a, q, B⟩ := B
  have F := FrR_of B
  unfold fX8_share fX9_share
  rw [c_hasRowQ, Option.bind_some, m_noRow (by omega), Option.bind_some, c_isSizeR, Option.bind_some, m_in16, Option.bind_some]
  cases hr : inQ x1 R with
  | false =>
    rw [ib_f, Bool.not_false, ib_t]
    exact ⟨_, _, _, _, _, _, _, _, rfl, rfl⟩
  | true =>
    obtain ⟨r, hrR, rfl⟩ := inQ_at (by omega) hr
    rw [ib_t, Bool.not_true, ib_f]
    cases hs : inR x2 1 6 with
    | false =>
      rw [ib_f, ib_f]
      exact ⟨_, _, _, _, _, _, _, _, rfl, rfl⟩
    | true =>
      obtain ⟨n, n1, n6, rfl⟩ := inR_at (by decide) (by decide) hs
      have p16 : 2 ^ R ≤ 16 := Nat.pow_le_pow_right (n := 2) (by decide) hR
      unfold fX4_rows
      rw [ib_t, ib_t, Option.bind_some, sh1 r (by omega)]
      have h := L_share H HM F n1 n6 hrR x3 (2 ^ R) 0 FU 0 f1 f2 f3 f4 h1 h2 h3 (by omega) (by have := FU_ge (k := 100) (by decide); omega) (by omega)
      rw [show nI 0 = (0 : Int32) from rfl, show lN 0 = (0 : Int64) from rfl] at h
      exact h
