theorem pw_le {m : Nat} (h : m ≤ 4) : 1000 ^ m ≤ 1000000000000 := Nat.le_trans (Nat.pow_le_pow_right (by decide) h) (by decide)
theorem pw_pos (m : Nat) : 0 < 1000 ^ m := Nat.pow_pos (by decide)
theorem m_longPower {j : Nat} (hj : j ≤ 4) : fX9_longPower (1000 : Int64) (nI j) = some (lN (1000 ^ j)) := by
  have hL : ∀ fu i, i ≤ j → j + 1 ≤ i + fu → fX9_longPower_5 fu (1000 : Int64) (nI j) (lN (1000 ^ i)) (nI i) = some (lN (1000 ^ j)) := by
    intro fu
    induction fu with
    | zero => intro i h1 h2; omega
    | succ fu ih =>
      intro i h1 h2
      rw [fX9_longPower_5]
      by_cases h : i = j
      · subst h
        rw [if_pos (nI_le (Nat.le_refl _) (by omega))]
      · rw [if_neg (nI_ge (by omega) (by omega)), show (1000 : Int64) = lN 1000 from rfl, lN_mul, ← Nat.pow_succ, nI_1]
        exact ih (i + 1) (by omega) (by omega)
  exact hL FU 0 (by omega) (by have := FU_ge (k := 50) (by decide); omega)
/-- the digits of a row of statements, on both sides -/
theorem dg_cls {t m : Nat} (hm : m ≤ 3) : t % 1000 ^ (m + 1) * 1000 ^ (3 - m) / 1000000000 = t / 1000 ^ m % 1000 ∧ t % 1000 ^ (m + 1) * 1000 ^ (3 - m) % 1000000000 * 1000 = t % 1000 ^ m * 1000 ^ (4 - m) ∧ t % 1000 ^ (m + 1) * 1000 ^ (3 - m) < 1000000000000 := by
  have : m = 0 ∨ m = 1 ∨ m = 2 ∨ m = 3 := by omega
  rcases this with rfl | rfl | rfl | rfl
  · show t % 1000 * 1000000000 / 1000000000 = t / 1 % 1000 ∧ t % 1000 * 1000000000 % 1000000000 * 1000 = t % 1 * 1000000000000 ∧ t % 1000 * 1000000000 < 1000000000000
    omega
  · show t % 1000000 * 1000000 / 1000000000 = t / 1000 % 1000 ∧ t % 1000000 * 1000000 % 1000000000 * 1000 = t % 1000 * 1000000000 ∧ t % 1000000 * 1000000 < 1000000000000
    omega
  · show t % 1000000000 * 1000 / 1000000000 = t / 1000000 % 1000 ∧ t % 1000000000 * 1000 % 1000000000 * 1000 = t % 1000000 * 1000000 ∧ t % 1000000000 * 1000 < 1000000000000
    omega
  · show t % 1000000000000 * 1 / 1000000000 = t / 1000000000 % 1000 ∧ t % 1000000000000 * 1 % 1000000000 * 1000 = t % 1000000000 * 1000 ∧ t % 1000000000000 * 1 < 1000000000000
    omega
theorem L_judge {R : Nat} {N : Nat → Nat} {al : Nat → Nat → Bool} {vw : Nat → Nat → Nat} {se jo vi mn am vm : Nat → Int32} (H : HallP R N al vw se jo vi) (HM : HallM R N al vw mn am vm) {nask nwai nfee ntak th : Int32} {npr nfr nsz nlm npc npd nqu page : Nat → Int32} {n t : Nat} (hn : n ≤ 4) (ht : t < 2 ^ 63) :
    ∀ (m k fu : Nat) (ask wai fee tak f1 f2 f3 f4 h1 h2 h3 : Int32) (pr fr sz lm pc pd qu w : Nat → Int32), k + m = n → m + 1 ≤ fu → BK R N pr fr sz lm pc pd qu ask wai fee tak w →
    ∃ (ans g1 g2 g3 g4 k1 k2 k3 ca' cw' ce' ct' : Int32) (cp' cf' cs' cl' cc' cd' cq' w' : Nat → Int32),
      fX8_judge_95 fu (nI R) se jo vi nask nwai nfee ntak npr nfr nsz nlm npc npd nqu ask wai fee tak pr fr sz lm pc pd qu f1 f2 f3 f4 (nI n) (lN (t % 1000 ^ m * 1000 ^ (4 - m))) (nI k) = some (ans, ca', cw', ce', ct', cp', cf', cs', cl', cc', cd', cq', g1, g2, g3, g4) ∧
      fX9_judge_51 fu th (nI R) h1 h2 h3 mn vm am page w (nI n) (lN t) (nI k) = some (ans, th, k1, k2, k3, w') := by
  intro m
  induction m with
  | zero =>
    intro k fu ask wai fee tak f1 f2 f3 f4 h1 h2 h3 pr fr sz lm pc pd qu w hk hfu B
    obtain ⟨fu, rfl⟩ : ∃ z, fu = z + 1 := ⟨fu - 1, by omega⟩
    have hkn : k = n := by omega
    subst hkn
    rw [fX8_judge_95, fX9_judge_51, if_pos (nI_le (Nat.le_refl _) (by omega)), if_pos (nI_le (Nat.le_refl _) (by omega))]
    exact ⟨_, _, _, _, _, _, _, _, _, _, _, _, _, _, _, _, _, _, _, _, rfl, rfl⟩
  | succ m ih =>
    intro k fu ask wai fee tak f1 f2 f3 f4 h1 h2 h3 pr fr sz lm pc pd qu w hk hfu B
    obtain ⟨fu, rfl⟩ : ∃ z, fu = z + 1 := ⟨fu - 1, by omega⟩
    obtain ⟨d1, d2, d3⟩ := dg_cls (t := t) (m := m) (by omega)
    have hp1 := pw_le (m := m) (by omega)
    have hp0 := pw_pos m
    have e4 : 4 - (m + 1) = 3 - m := by omega
    have hv : t / 1000 ^ m % 1000 < 1000 := Nat.mod_lt _ (by decide)
    generalize hvv : t / 1000 ^ m % 1000 = v at hv d1
    have hdig : v = 100 * (v / 100) + 10 * (v / 10 % 10) + v % 10 := by omega
    have e1 : nI n - (1 : Int32) - nI k = nI m := by
      rw [show (1 : Int32) = nI 1 from rfl, sub1 (by omega), pk_sub (by omega)]
      congr 1
      omega
    have eT : (lN t / lN (1000 ^ m) - lN t / lN (1000 ^ m) / (1000 : Int64) * (1000 : Int64)).toInt32 = nI v := by
      rw [pk_lDiv ht hp0 (by omega), show (1000 : Int64) = lN 1000 from rfl, pk_lRem (Nat.lt_of_le_of_lt (Nat.div_le_self _ _) ht) (by decide) (by decide), hvv, lN_i]
    have q100 : nI v / (100 : Int32) = nI (v / 100) := by
      rw [show (100 : Int32) = nI 100 from rfl, pk_div (by omega) (by decide) (by decide)]
    have q10 : nI v / (10 : Int32) - nI v / (10 : Int32) / (10 : Int32) * (10 : Int32) = nI (v / 10 % 10) := by
      rw [show (10 : Int32) = nI 10 from rfl, pk_div (by omega) (by decide) (by decide), pk_rem (by omega) (by decide) (by decide)]
    have q1 : nI v - nI v / (10 : Int32) * (10 : Int32) = nI (v % 10) := by
      rw [show (10 : Int32) = nI 10 from rfl, pk_rem (by omega) (by decide) (by decide)]
    obtain ⟨b, ask', wai', tak', g1, g2, g3, g4, k1, k2, k3, pr', fr', sz', lm', pc', pd', qu', w', a1, a2, B2⟩ := L_holds H HM B (h := v / 100) (x := v / 10 % 10) (y := v % 10) (by omega) (by omega) (by omega) f1 f2 f3 f4 h1 h2 h3
    rw [← hdig] at a1
    have eC1 : (lN (t % 1000 ^ (m + 1) * 1000 ^ (4 - (m + 1))) / (1000000000 : Int64)).toInt32 = nI v := by
      rw [e4, show (1000000000 : Int64) = lN 1000000000 from rfl, pk_lDiv (by omega) (by decide) (by decide), d1, lN_i]
    have eC2 : (lN (t % 1000 ^ (m + 1) * 1000 ^ (4 - (m + 1))) - lN (t % 1000 ^ (m + 1) * 1000 ^ (4 - (m + 1))) / (1000000000 : Int64) * (1000000000 : Int64)) * (1000 : Int64) = lN (t % 1000 ^ m * 1000 ^ (4 - m)) := by
      rw [e4, show (1000000000 : Int64) = lN 1000000000 from rfl, pk_lRem (by omega) (by decide) (by decide), show (1000 : Int64) = lN 1000 from rfl, lN_mul, d2]
    rw [fX8_judge_95, fX9_judge_51, if_neg (nI_ge (by omega) (by omega)), if_neg (nI_ge (by omega) (by omega)), eC1, a1, Option.bind_some, e1, m_longPower (by omega), Option.bind_some, if_neg (show ¬ lN (1000 ^ m) = 0 from fun e => by have := (pk_lEQ (b := 0) (by omega) (by decide)).mp e; omega), eT, q10, q1, q100, a2, Option.bind_some, eC2, nI_1]
    cases b with
    | false =>
      rw [ib_f, ib_f]
      exact ⟨_, _, _, _, _, _, _, _, _, _, _, _, _, _, _, _, _, _, _, _, rfl, rfl⟩
    | true =>
      rw [ib_t, ib_t]
      exact ih (k + 1) fu _ _ _ _ _ _ _ _ _ _ _ _ _ _ _ _ _ _ _ (by omega) (by omega) B2
theorem O_judge {R : Nat} {N : Nat → Nat} {al : Nat → Nat → Bool} {vw : Nat → Nat → Nat} {se jo vi mn am vm : Nat → Int32} (H : HallP R N al vw se jo vi) (HM : HallM R N al vw mn am vm) {pr fr sz lm pc pd qu w tr cp cf cs cl cc cd cq : Nat → Int32} {ask wai fee tak ca cw ce ct : Int32} (B : BK R N pr fr sz lm pc pd qu ask wai fee tak w) (f1 f2 f3 f4 th h1 h2 h3 x1 : Int32) (x2 : Int64) :
    ∃ (ans g1 g2 g3 g4 k1 k2 k3 ca' cw' ce' ct' : Int32) (cp' cf' cs' cl' cc' cd' cq' tr' : Nat → Int32),
      fX8_judge (nI R) se jo vi ask wai fee tak pr fr sz lm pc pd qu ca cw ce ct cp cf cs cl cc cd cq f1 f2 f3 f4 x1 x2 = some (ans, ca', cw', ce', ct', cp', cf', cs', cl', cc', cd', cq', g1, g2, g3, g4) ∧ fX9_judge th (nI R) h1 h2 h3 mn vm am w tr x1 x2 = some (ans, 0, k1, k2, k3, tr') := by
  obtain ⟨hR, hN, hse⟩ := HallP_N H
  have BC := L_copy (o0 := cp) (o1 := cf) (o2 := cs) (o3 := cl) (o4 := cc) (o5 := cd) (o6 := cq) hR hN B (w' := fa_fill w tr 229) (fun k hk => fa_fill_in hk)
  unfold fX8_judge fX9_judge
  rw [show fX9_in x1.toInt64 (1 : Int64) (4 : Int64) = some (bI (inR x1 1 4)) from m_inR x1 1 4, Option.bind_some]
  have e14 : ∀ (α : Type) (y z : α), (if x1 < (1 : Int32) then y else if (4 : Int32) < x1 then y else z) = (if bI (inR x1 1 4) = 0 then y else z) := fun α y z => by
    unfold inR
    by_cases g1 : x1 < 1
    · rw [if_pos g1, decide_eq_false (fun h => by have := (fa_lt _ _).mp g1; have := (fa_le _ _).mp h.1; have e : (nI 1).toInt = (1 : Int32).toInt := rfl; omega), ib_f]
    · rw [if_neg g1]
      by_cases g2 : (4 : Int32) < x1
      · rw [if_pos g2, decide_eq_false (fun h => by have := (fa_lt _ _).mp g2; have := (fa_le _ _).mp h.2; have e : (nI 4).toInt = (4 : Int32).toInt := rfl; omega), ib_f]
      · rw [if_neg g2, decide_eq_true ⟨fa_of_nlt (b := nI 1) g1, fa_of_nlt (a := nI 4) g2⟩, ib_t]
  rw [e14]
  cases hs : inR x1 1 4 with
  | false =>
    rw [ib_f, ib_f]
    exact ⟨_, _, _, _, _, _, _, _, _, _, _, _, _, _, _, _, _, _, _, _, rfl, rfl⟩
  | true =>
    obtain ⟨n, n1, n4, rfl⟩ := inR_at (by decide) (by decide) hs
    have hp1 := pw_le (m := n) n4
    have hp0 := pw_pos n
    rw [ib_t, ib_t, m_longPower n4, Option.bind_some]
    by_cases hneg : x2 < 0
    · have hin : fX9_in x2 (0 : Int64) (lN (1000 ^ n) - (1 : Int64)) = some 0 := by
        unfold fX9_in
        rw [if_pos ((lg_cmp_lt _ _).mpr hneg)]
      rw [if_neg (fun e => lg_le_not_lt ((lg_cmp_ge _ _).mp e) hneg), hin, Option.bind_some, i0_t]
      exact ⟨_, _, _, _, _, _, _, _, _, _, _, _, _, _, _, _, _, _, _, _, rfl, rfl⟩
    · obtain ⟨t, ht, rfl⟩ := pk_lOf hneg
      have hge : (0 : Int64) ≤ lN t := (pk_lLE (a := 0) (by decide) ht).mpr (by omega)
      have hin : fX9_in (lN t) (0 : Int64) (lN (1000 ^ n) - (1 : Int64)) = some (bI (decide (t < 1000 ^ n))) := by
        unfold fX9_in
        rw [if_neg (fun e => hneg ((lg_cmp_lt _ _).mp e)), show (1 : Int64) = lN 1 from rfl, lN_sub (by omega)]
        by_cases g : t < 1000 ^ n
        · rw [if_neg (fun e => by have := (pk_lLT (by omega) ht).mp ((lg_cmp_gt _ _).mp e); omega), decide_eq_true g]
          rfl
        · rw [if_pos ((lg_cmp_gt _ _).mpr ((pk_lLT (by omega) ht).mpr (by omega))), decide_eq_false g]
          rfl
      rw [if_pos ((lg_cmp_ge _ _).mpr hge), hin, Option.bind_some]
      have h61 : ∀ j fu i v, i + j = 4 → j + 1 ≤ fu → fX8_judge_61 fu (nI R) se jo vi ask wai fee tak pr fr sz lm pc pd qu ca cw ce ct cp cf cs cl cc cd cq f1 f2 f3 f4 (nI n) (lN v) (nI i) = fX8_judge_95 FU (nI R) se jo vi ask wai fee tak pr fr sz lm pc pd qu ask wai fee tak (va_cpy pr cp 0 0 4) (va_cpy fr cf 0 0 4) (va_cpy sz cs 0 0 31) (va_cpy lm cl 0 0 31) (va_cpy pc cc 0 0 31) (va_cpy pd cd 0 0 31) (va_cpy qu cq 0 0 5) f1 f2 f3 f4 (nI n) (lN (v * 1000 ^ j)) (nI 0) := by
        intro j
        induction j with
        | zero =>
          intro fu i v hi hfu
          obtain ⟨fu, rfl⟩ : ∃ z, fu = z + 1 := ⟨fu - 1, by omega⟩
          have : i = 4 := by omega
          subst this
          rw [fX8_judge_61, if_pos (show (4 : Int32) ≤ nI 4 from by decide), Nat.pow_zero, Nat.mul_one]
          unfold fX0_copyFrom
          rw [Option.bind_some, show ((0 : Int32)).toNatClampNeg = 0 from rfl, show ((4 : Int32)).toNatClampNeg = 4 from rfl, show ((31 : Int32)).toNatClampNeg = 31 from rfl, show ((5 : Int32)).toNatClampNeg = 5 from rfl, show nI 0 = (0 : Int32) from rfl]
        | succ j ih =>
          intro fu i v hi hfu
          obtain ⟨fu, rfl⟩ : ∃ z, fu = z + 1 := ⟨fu - 1, by omega⟩
          rw [fX8_judge_61, if_neg (show ¬ (4 : Int32) ≤ nI i from nI_ge (b := 4) (by omega) (by decide)), show (1000 : Int64) = lN 1000 from rfl, lN_mul, nI_1, ih fu (i + 1) (v * 1000) (by omega) (by omega), Nat.pow_succ, Nat.mul_assoc v 1000, Nat.mul_comm 1000]
      have h25 : ∀ fu i, i ≤ n → n + 1 ≤ i + fu → fX8_judge_25 fu (nI R) se jo vi ask wai fee tak pr fr sz lm pc pd qu ca cw ce ct cp cf cs cl cc cd cq f1 f2 f3 f4 (nI n) (lN t) (lN (1000 ^ i)) (nI i) = (if bI (decide (t < 1000 ^ n)) = 0 then some (-2, ca, cw, ce, ct, cp, cf, cs, cl, cc, cd, cq, f1, f2, f3, f4) else fX8_judge_95 FU (nI R) se jo vi ask wai fee tak pr fr sz lm pc pd qu ask wai fee tak (va_cpy pr cp 0 0 4) (va_cpy fr cf 0 0 4) (va_cpy sz cs 0 0 31) (va_cpy lm cl 0 0 31) (va_cpy pc cc 0 0 31) (va_cpy pd cd 0 0 31) (va_cpy qu cq 0 0 5) f1 f2 f3 f4 (nI n) (lN (t * 1000 ^ (4 - n))) (nI 0)) := by
        intro fu
        induction fu with
        | zero => intro i h1 h2; omega
        | succ fu ih =>
          intro i h1 h2
          rw [fX8_judge_25]
          by_cases h : i = n
          · subst h
            rw [if_pos (nI_le (Nat.le_refl _) (by omega)), h61 (4 - i) FU i t (by omega) (by have := FU_ge (k := 50) (by decide); omega)]
            by_cases g : t < 1000 ^ i
            · rw [if_pos ((lg_cmp_lt _ _).mpr ((pk_lLT ht (by omega)).mpr g)), decide_eq_true g, ib_t]
            · rw [if_neg (fun e => g ((pk_lLT ht (by omega)).mp ((lg_cmp_lt _ _).mp e))), decide_eq_false g, ib_f]
          · rw [if_neg (nI_ge (by omega) (by omega)), show (1000 : Int64) = lN 1000 from rfl, lN_mul, ← Nat.pow_succ, nI_1]
            exact ih (i + 1) (by omega) (by omega)
      have h25' := h25 FU 0 (by omega) (by have := FU_ge (k := 50) (by decide); omega)
      rw [Nat.pow_zero, show lN 1 = (1 : Int64) from rfl, show nI 0 = (0 : Int32) from rfl] at h25'
      rw [h25']
      by_cases g : t < 1000 ^ n
      · obtain ⟨ans, g1, g2, g3, g4, k1, k2, k3, ca', cw', ce', ct', cp', cf', cs', cl', cc', cd', cq', w', a1, a2⟩ := L_judge H HM (nask := ask) (nwai := wai) (nfee := fee) (ntak := tak) (npr := pr) (nfr := fr) (nsz := sz) (nlm := lm) (npc := pc) (npd := pd) (nqu := qu) (page := w) (th := 0) (n := n) (t := t) n4 ht n 0 FU _ _ _ _ f1 f2 f3 f4 h1 h2 h3 _ _ _ _ _ _ _ _ (by omega) (by have := FU_ge (k := 50) (by decide); omega) BC
        rw [Nat.mod_eq_of_lt g, show nI 0 = (0 : Int32) from rfl] at a1
        rw [show nI 0 = (0 : Int32) from rfl] at a2
        rw [decide_eq_true g, ib_t, ib_t, m_copy, Option.bind_some]
        exact ⟨_, _, _, _, _, _, _, _, _, _, _, _, _, _, _, _, _, _, _, _, a1, a2⟩
      · rw [decide_eq_false g, ib_f, ib_f]
        exact ⟨_, _, _, _, _, _, _, _, _, _, _, _, _, _, _, _, _, _, _, _, rfl, rfl⟩
