/-! the two sides of the search are one -/
def JA (N : Nat → Nat) (a : Nat → Nat → Bool) (r k : Nat) : Bool := decide (k + 1 < N r) && !a r k
def FA (N : Nat → Nat) (w : Nat → Int32) (r k : Nat) : Bool := decide (k < N r) && frW w r k
theorem lo_same {N : Nat} {a G : Nat → Bool} {i : Nat} (h : i < N) : loB (fun k => decide (k < N) && G k) (fun k => decide (k + 1 < N) && !a k) i = loM N a G i := by
  unfold loB loM
  dsimp only
  rw [decide_eq_true h]
  by_cases h0 : i = 0
  · subst h0
    by_cases h1 : 0 + 1 < N
    · rw [decide_eq_true h1]
      cases G 0 <;> cases G (0 + 1) <;> cases a 0 <;> simp
    · rw [decide_eq_false h1]
      cases G 0 <;> simp
  · obtain ⟨j, rfl⟩ : ∃ j, i = j + 1 := ⟨i - 1, by omega⟩
    rw [decide_eq_true (show 1 ≤ j + 1 by omega), decide_eq_true (show 0 < j + 1 by omega), Nat.add_sub_cancel, decide_eq_true (show j < N by omega), decide_eq_true (show j + 1 < N from h)]
    by_cases h1 : j + 1 + 1 < N
    · rw [decide_eq_true h1]
      cases G (j + 1) <;> cases G (j + 1 + 1) <;> cases a (j + 1) <;> cases G j <;> cases a j <;> rfl
    · rw [decide_eq_false h1]
      cases G (j + 1) <;> cases G j <;> cases a j <;> rfl
theorem lo_out {F J : Nat → Bool} {i : Nat} (h : F i = false) : loB F J i = false := by
  unfold loB
  rw [h]
  rfl
theorem ct_same {N : Nat} {a G : Nat → Bool} (hN : N ≤ 9) : fb_ct (loB (fun k => decide (k < N) && G k) (fun k => decide (k + 1 < N) && !a k)) 9 = fb_ct (loM N a G) N := by
  have h1 := fb_ct_split (loB (fun k => decide (k < N) && G k) (fun k => decide (k + 1 < N) && !a k)) N (9 - N)
  rw [show N + (9 - N) = 9 by omega] at h1
  rw [h1, fb_ct_cong (fun k hk => lo_same hk), fb_ct_zero.mpr (fun k _ => lo_out (by
    show (decide (N + k < N) && G (N + k)) = false
    rw [decide_eq_false (by omega)]
    rfl)), Nat.add_zero]
theorem loM_cong {N : Nat} {a G G' : Nat → Bool} (h : ∀ k, k < N → G k = G' k) : fb_ct (loM N a G) N = fb_ct (loM N a G') N := by
  refine fb_ct_cong (fun k hk => ?_)
  unfold loM
  rw [h k hk]
  by_cases h0 : 0 < k
  · rw [h (k - 1) (by omega)]
    by_cases h1 : k + 1 < N
    · rw [h (k + 1) h1]
    · rw [decide_eq_false h1]
      rfl
  · rw [decide_eq_false h0]
    by_cases h1 : k + 1 < N
    · rw [h (k + 1) h1]
      rfl
    · rw [decide_eq_false h1]
      rfl
theorem fr_lay {w : Nat → Int32} {r s n k : Nat} : frW (layF w r s n 31) r k = (frW w r k && !spn s n k) := by
  unfold frW layF spn
  by_cases h1 : s ≤ k
  · by_cases h2 : k < s + n
    · rw [if_pos (by omega), decide_eq_true h1, decide_eq_true h2, decide_eq_false (by decide)]
      simp
    · rw [if_neg (by omega), decide_eq_false h2]
      simp
  · rw [if_neg (by omega), decide_eq_false h1]
    simp
theorem fr_lay_ne {w : Nat → Int32} {r r' s n k : Nat} {v : Int32} (h : r' ≠ r) (hs : s + n ≤ 9) (hk : k < 9) : frW (layF w r s n v) r' k = frW w r' k := by
  unfold frW layF
  rw [if_neg (by omega)]
theorem ok_same {R : Nat} {N : Nat → Nat} {a : Nat → Nat → Bool} {w : Nat → Int32} (hN : ∀ r, r < R → N r ≤ 9) {n lone r s : Nat} (hr : r < R) (h1 : 1 ≤ n) : okS N (JA N a) (FA N w) n ((lone : Int) - (fb_sm (loneW N a w) R : Int)) r s = okM R N a w n lone r s := by
  unfold okS okR okM
  by_cases c0 : s + n ≤ N r
  · rw [decide_eq_true c0, Bool.true_and, Bool.true_and]
    have hN9 := hN r hr
    -- the seats
    have e1 : (decide (∀ k, k < n → FA N w r (s + k) = true) && decide (∀ k, k < n - 1 → JA N a r (s + k) = true)) = seqM (a r) (frW w r) s n := by
      unfold seqM
      by_cases h : ∀ k, k < n → frW w r (s + k) = true ∧ (k = 0 ∨ a r (s + k - 1) = false)
      · rw [decide_eq_true h, decide_eq_true (fun k hk => by
          unfold FA
          rw [decide_eq_true (by omega), (h k hk).1]
          rfl), decide_eq_true (fun k hk => by
          unfold JA
          have h3 := (h (k + 1) (by omega)).2
          rcases h3 with h3 | h3
          · omega
          · rw [show s + (k + 1) - 1 = s + k by omega] at h3
            rw [decide_eq_true (by omega), h3]
            rfl)]
        rfl
      · rw [decide_eq_false h]
        by_cases hF : ∀ k, k < n → FA N w r (s + k) = true
        · rw [decide_eq_true hF, Bool.true_and]
          refine decide_eq_false (fun hJ => h (fun k hk => ⟨?_, ?_⟩))
          · have h3 := hF k hk
            unfold FA at h3
            rw [decide_eq_true (by omega), Bool.true_and] at h3
            exact h3
          · by_cases hk0 : k = 0
            · exact Or.inl hk0
            · right
              have h3 := hJ (k - 1) (by omega)
              unfold JA at h3
              rw [show s + (k - 1) = s + k - 1 by omega] at h3
              rw [decide_eq_true (by omega), Bool.true_and] at h3
              cases hz : a r (s + k - 1)
              · rfl
              · rw [hz] at h3; cases h3
        · rw [decide_eq_false hF]
          rfl
    rw [← Bool.and_assoc, e1]
    congr 1
    -- the lone seats
    have e2 : fb_ct (loB (fun i => FA N w r i && !spn s n i) (JA N a r)) 9 = loneW N a (layF w r s n 31) r := by
      unfold loneW
      have h3 := ct_same (a := a r) (G := fun i => frW w r i && !spn s n i) hN9
      rw [show fb_ct (loM (N r) (a r) (frW (layF w r s n 31) r)) (N r) = fb_ct (loM (N r) (a r) (fun i => frW w r i && !spn s n i)) (N r) from loM_cong (fun k _ => fr_lay), ← h3]
      refine fb_ct_cong (fun k _ => ?_)
      congr 1
      funext i
      show ((decide (i < N r) && frW w r i) && !spn s n i) = (decide (i < N r) && (frW w r i && !spn s n i))
      rw [Bool.and_assoc]
    have e3 : fb_ct (loB (FA N w r) (JA N a r)) 9 = loneW N a w r := ct_same hN9
    have e4 : fb_sm (loneW N a (layF w r s n 31)) R + loneW N a w r = fb_sm (loneW N a w) R + loneW N a (layF w r s n 31) r := by
      have h4 := fb_sm_upd (loneW N a w) (loneW N a (layF w r s n 31) r) hr
      rw [← h4]
      congr 1
      refine fb_sm_cong (fun k hk => ?_)
      by_cases hkr : k = r
      · rw [if_pos hkr, hkr]
      · rw [if_neg hkr]
        unfold loneW
        exact loM_cong (fun j hj => fr_lay_ne hkr (by omega) (by have := hN k hk; omega))
    rw [e2, e3]
    have e5 : ((loneW N a (layF w r s n 31) r : Int) ≤ (loneW N a w r : Int) + ((lone : Int) - (fb_sm (loneW N a w) R : Int))) ↔ (fb_sm (loneW N a (layF w r s n 31)) R ≤ lone) := by omega
    by_cases c5 : fb_sm (loneW N a (layF w r s n 31)) R ≤ lone
    · rw [decide_eq_true c5, decide_eq_true (e5.mpr c5)]
    · rw [decide_eq_false c5, decide_eq_false (fun z => c5 (e5.mp z))]
  · rw [decide_eq_false c0]
    rfl
theorem rowS_cong {ok ok' : Nat → Bool} {qu : Nat → Nat} {r p : Nat} {A : Acc} {n : Nat} (h : ∀ k, k < n → ok k = ok' k) : rowS ok qu r p A n = rowS ok' qu r p A n := by
  induction n with
  | zero => rfl
  | succ n ih => rw [rowS, rowS, ih (fun k hk => h k (by omega)), h n (by omega)]
theorem allS_cong {op : Nat → Bool} {ok ok' : Nat → Nat → Bool} {qu : Nat → Nat → Nat} {N p : Nat → Nat} {R : Nat} (h : ∀ r, r < R → ∀ s, ok r s = ok' r s) : allS op ok qu N p R = allS op ok' qu N p R := by
  induction R with
  | zero => rfl
  | succ R ih => rw [allS, allS, ih (fun r hr => h r (by omega)), rowS_cong (fun k _ => h R (by omega) k)]
theorem best_same {R : Nat} {N : Nat → Nat} {a : Nat → Nat → Bool} {vw : Nat → Nat → Nat} {w : Nat → Int32} {p : Nat → Nat} (hN : ∀ r, r < R → N r ≤ 9) {n lim o lone : Nat} (h1 : 1 ≤ n) : allS (opS o lim p) (okM R N a w n lone) (quS vw n) N p R = bestS R N (JA N a) (FA N w) vw p n lim o ((lone : Int) - (fb_sm (loneW N a w) R : Int)) := (allS_cong (fun r hr s => (ok_same hN hr h1).symm))
