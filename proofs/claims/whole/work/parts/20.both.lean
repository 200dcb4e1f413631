/-! looking for a place, on both sides, over bookings that agree -/
def HallP (R : Nat) (N : Nat → Nat) (al : Nat → Nat → Bool) (vw : Nat → Nat → Nat) (se jo vi : Nat → Int32) : Prop :=
  R ≤ 4 ∧ (∀ j k, vw j k ≤ 9) ∧ ∀ r, r < R → (1 ≤ N r ∧ N r ≤ 9) ∧ se r = nI (N r) ∧ jo r = Mk (JA N al r) ∧ (∀ k, k < N r → vi (9 * r + k) = nI (vw r k))
def pv (w : Nat → Int32) (r : Nat) : Nat := (w r).toNatClampNeg
theorem pv_of {w : Nat → Int32} {r : Nat} (h : ∃ v, 1 ≤ v ∧ v ≤ 9 ∧ w r = nI v) : w r = nI (pv w r) ∧ 1 ≤ pv w r ∧ pv w r ≤ 9 := by
  obtain ⟨v, h1, h2, h3⟩ := h
  unfold pv
  rw [h3, nI_clamp (by omega)]
  exact ⟨rfl, h1, h2⟩
theorem HC {R : Nat} {N : Nat → Nat} {al : Nat → Nat → Bool} {vw : Nat → Nat → Nat} {se jo vi : Nat → Int32} (H : HallP R N al vw se jo vi) {a e c i m : Nat} {pr fr sz lm pc pd qu : Nat → Int32} {ask wai fee tak : Int32} {w : Nat → Int32} (B : BKg R N a e c i m pr fr sz lm pc pd qu ask wai fee tak w) : HallC R N (JA N al) (FA N w) vw (pv w) se jo vi pr fr := by
  obtain ⟨hR, hvw, hrow⟩ := H
  obtain ⟨-, -, -, -, hpr, ⟨hfr, -⟩, -⟩ := B
  refine ⟨hR, hvw, fun r hr => ?_⟩
  obtain ⟨hN, h1, h2, h3⟩ := hrow r hr
  obtain ⟨p1, p2⟩ := hpr r hr
  obtain ⟨g1, g2, g3⟩ := pv_of p2
  refine ⟨hN, h1, h2, hfr r hr, fun k hk => ?_, h3, by rw [p1]; exact g1, by omega⟩
  unfold FA
  rw [decide_eq_false (by omega)]
  rfl
/-- the best place for a size and a limit -/
def bst (R : Nat) (N : Nat → Nat) (al : Nat → Nat → Bool) (vw : Nat → Nat → Nat) (w : Nat → Int32) (n lim : Nat) : Acc := bestS R N (JA N al) (FA N w) vw (pv w) n lim 15 0
theorem L_look {R : Nat} {N : Nat → Nat} {al : Nat → Nat → Bool} {vw : Nat → Nat → Nat} {se jo vi : Nat → Int32} (H : HallP R N al vw se jo vi) {a e c i m : Nat} {pr fr sz lm pc pd qu : Nat → Int32} {ask wai fee tak : Int32} {w : Nat → Int32} (B : BKg R N a e c i m pr fr sz lm pc pd qu ask wai fee tak w) {n lim : Nat} (h1 : 1 ≤ n) (hn : n ≤ 6) (hl : lim ≤ 9) (f1 f2 f3 f4 : Int32) : fX1_look f1 f2 f3 f4 (nI R) se jo vi pr fr (nI n) (nI lim) 0 15 = some (plI (bst R N al vw w n lim), repC (bst R N al vw w n lim)) := c_look (HC H B) (o := 15) (d := 0) h1 hn (by omega) (by decide) (by decide) (by decide) (by decide) f1 f2 f3 f4
theorem L_find {R : Nat} {N : Nat → Nat} {al : Nat → Nat → Bool} {vw : Nat → Nat → Nat} {mn am vm : Nat → Int32} (H : HallM R N al vw mn am vm) {a e c i m : Nat} {pr fr sz lm pc pd qu : Nat → Int32} {ask wai fee tak : Int32} {w : Nat → Int32} (B : BKg R N a e c i m pr fr sz lm pc pd qu ask wai fee tak w) {n lim : Nat} (h1 : 1 ≤ n) (hn : n ≤ 6) (hl : lim ≤ 9) (f1 f2 f3 : Int32) : fX9_findBest (nI R) f1 f2 f3 mn vm am w (nI n) (nI lim) = some (plI (bst R N al vw w n lim), fvI (bst R N al vw w n lim), nI (bst R N al vw w n lim).1, w) := by
  obtain ⟨hR, hvw, hrow⟩ := id H
  obtain ⟨-, -, -, -, hpr, -⟩ := B
  have hb := lone_bound (a := al) (w := w) (fun r hr => (hrow r hr).1.2)
  unfold fX9_findBest
  rw [m_allLone H, Option.bind_some, show (15 : Int32) = nI 15 from rfl, m_findPlace H (p := pv w) h1 hn (by decide) (by omega) (by omega) (fun r hr => ⟨(pv_of (hpr r hr).2).1, by have := (pv_of (hpr r hr).2).2.2; omega⟩), Option.bind_some, best_same (fun r hr => (hrow r hr).1.2) h1, Int.sub_self]
  rfl
theorem rowS_at {ok : Nat → Bool} {qu : Nat → Nat} {r p : Nat} {A : Acc} {P : Acc → Prop} (hA : A.1 ≠ 0 → P A) (hP : ∀ (B : Acc) (s : Nat), ok s = true → P (B.1 + 1, 10 * r + s, qu s, p)) (hk : ∀ (B : Acc), P B → P (B.1 + 1, B.2)) (n : Nat) : (rowS ok qu r p A n).1 ≠ 0 → P (rowS ok qu r p A n) := by
  induction n with
  | zero => exact hA
  | succ n ih =>
    rw [rowS]
    by_cases h : ok n = true
    · rw [if_pos h]
      unfold accC
      by_cases h2 : (rowS ok qu r p A n).1 = 0 ∨ (rowS ok qu r p A n).2.2.1 < qu n ∨ (qu n = (rowS ok qu r p A n).2.2.1 ∧ p < (rowS ok qu r p A n).2.2.2)
      · rw [if_pos h2]
        exact fun _ => hP _ n h
      · rw [if_neg h2]
        exact fun _ => hk _ (ih (fun z => h2 (Or.inl z)))
    · rw [if_neg h]
      exact ih
theorem allS_at {op : Nat → Bool} {ok : Nat → Nat → Bool} {qu : Nat → Nat → Nat} {N p : Nat → Nat} {P : Acc → Prop} (R : Nat) (hP : ∀ (B : Acc) (r s : Nat), r < R → op r = true → ok r s = true → P (B.1 + 1, 10 * r + s, qu r s, p r)) (hk : ∀ (B : Acc), P B → P (B.1 + 1, B.2)) : (allS op ok qu N p R).1 ≠ 0 → P (allS op ok qu N p R) := by
  induction R with
  | zero => exact fun h => absurd rfl h
  | succ R ih =>
    have ih2 := ih (fun B r s hr => hP B r s (by omega))
    rw [allS]
    by_cases h : op R = true
    · rw [if_pos h]
      exact rowS_at ih2 (fun B s hs => hP B R s (by omega) h hs) hk (N R)
    · rw [if_neg h]
      exact ih2
/-- where the best place is, and that its seats are free -/
theorem bst_at {R : Nat} {N : Nat → Nat} {al : Nat → Nat → Bool} {vw : Nat → Nat → Nat} {w : Nat → Int32} {n lim : Nat} (h : (bst R N al vw w n lim).1 ≠ 0) : ∃ r s, r < R ∧ s + n ≤ N r ∧ plI (bst R N al vw w n lim) = nI (10 * r + s) ∧ (∀ k, k < n → w (13 + 9 * r + (s + k)) = 0) ∧ (bst R N al vw w n lim).2.2.1 = quS vw n r s := by
  have h2 := allS_at (P := fun A => ∃ r s, r < R ∧ s + n ≤ N r ∧ A.2.1 = 10 * r + s ∧ (∀ k, k < n → w (13 + 9 * r + (s + k)) = 0) ∧ A.2.2.1 = quS vw n r s) (op := opS 15 lim (pv w)) (ok := okS N (JA N al) (FA N w) n 0) (qu := quS vw n) (N := N) (p := pv w) R (fun B r s hr _ hs => by
    unfold okS okR at hs
    have c0 : s + n ≤ N r := by
      by_cases c : s + n ≤ N r
      · exact c
      · rw [decide_eq_false c] at hs; cases hs
    rw [decide_eq_true c0, Bool.true_and] at hs
    have c1 : ∀ k, k < n → FA N w r (s + k) = true := by
      by_cases c : ∀ k, k < n → FA N w r (s + k) = true
      · exact c
      · rw [decide_eq_false c] at hs; cases hs
    refine ⟨r, s, hr, c0, rfl, fun k hk => ?_, rfl⟩
    have h3 := c1 k hk
    unfold FA at h3
    rw [decide_eq_true (by omega), Bool.true_and] at h3
    exact of_decide_eq_true h3) (fun B hB => hB) h
  obtain ⟨r, s, g1, g2, g3, g4, g5⟩ := h2
  refine ⟨r, s, g1, g2, ?_, g4, g5⟩
  unfold plI
  rw [if_neg h]
  show nI (bst R N al vw w n lim).2.1 = _
  rw [← g3]
  rfl
