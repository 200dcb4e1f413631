/-! seats given back -/
theorem Mk_or (P Q : Nat → Bool) : Mk P ||| Mk Q = Mk (fun i => P i || Q i) := Mk_ext (fun i hi => by
  rw [b_or, Mk_bit _ hi, Mk_bit _ hi]
  cases decide (i < 9) <;> simp)
theorem layF_in {w : Nat → Int32} {r s n j : Nat} {v : Int32} (h : 13 + 9 * r + s ≤ j ∧ j < 13 + 9 * r + s + n) : layF w r s n v j = v := if_pos h
theorem layF_out {w : Nat → Int32} {r s n j : Nat} {v : Int32} (h : ¬ (13 + 9 * r + s ≤ j ∧ j < 13 + 9 * r + s + n)) : layF w r s n v j = w j := if_neg h
/-- a seated party gets up: it is in between -/
theorem L_unseat {R : Nat} {N : Nat → Nat} {a p q : Nat} {pr fr sz lm pc pd qu : Nat → Int32} {ask wai fee tak : Int32} {w : Nat → Int32} (hR : R ≤ 4) (hN : ∀ r, r < R → N r ≤ 9) (B : BKg R N a 0 q q 0 pr fr sz lm pc pd qu ask wai fee tak w) (hp1 : 1 ≤ p) (hpa : p ≤ a) {r s n : Nat} (h45 : w (45 + 6 * p) = nI 1) (hn : w (43 + 6 * p) = nI n) (n6 : n ≤ 6) (hr : r < R) (hs : s + n ≤ N r) (h46 : w (46 + 6 * p) = nI r) (h47 : w (47 + 6 * p) = nI s) (hown : ∀ k, k < n → w (13 + 9 * r + (s + k)) = nI p) :
    BKg R N a p q q 0 pr (upd fr r (fr r ||| Mk (spn s n))) sz lm pc pd qu ask wai fee tak (layF w r s n 0) := by
  obtain ⟨⟨ha, hask, hw6⟩, hPN, hPt, hOw, hpr, ⟨hfr, hfr0⟩, ⟨hfee, htak⟩, ⟨hci, him, hwai, hw7⟩, ⟨hq1, hq2⟩, hqm, hqd⟩ := B
  have hN9 := hN r hr
  have low : ∀ j, j < 13 → layF w r s n 0 j = w j := fun j h => layF_out (by omega)
  have big : ∀ j, 49 ≤ j → layF w r s n 0 j = w j := fun j h => layF_out (by omega)
  refine ⟨⟨ha, hask, by rw [low 6 (by omega)]; exact hw6⟩, fun x h1 h2 => ?_, fun x h1 h2 h3 => ?_, fun r' hr' s' hs' => ?_, fun r' hr' => by rw [low r' (by omega)]; exact hpr r' hr', ⟨fun r' hr' => ?_, fun r' h1 h2 => by rw [upd_ne (by omega)]; exact hfr0 r' h1 h2⟩, ⟨by rw [low 4 (by omega)]; exact hfee, by rw [low 5 (by omega)]; exact htak⟩, ⟨hci, him, hwai, by rw [low 7 (by omega)]; exact hw7⟩, ⟨fun j hj => by rw [low (8 + j) (by omega)]; exact hq1 j hj, fun t ht => by omega⟩, fun x hx => ?_, hqd⟩
  · unfold PtN
    rw [big _ (by omega), big _ (by omega)]
    exact hPN x h1 h2
  · obtain ⟨hd, hst⟩ := hPt x h1 h2 (by omega)
    refine ⟨by rw [big _ (by omega)]; exact hd, ?_⟩
    rcases hst with ⟨t1, n', r', s', t2, t3, t4, t5, t6, t7, t8⟩ | ⟨t1, t2, t3⟩ | ⟨t1, t2, t3, t4⟩
    · refine Or.inl ⟨by rw [big _ (by omega)]; exact t1, n', r', s', by rw [big _ (by omega)]; exact t2, t3, t4, by rw [big _ (by omega)]; exact t5, by rw [big _ (by omega)]; exact t6, t7, fun k hk => ?_⟩
      have h8 := t8 k hk
      by_cases hin : 13 + 9 * r + s ≤ 13 + 9 * r' + (s' + k) ∧ 13 + 9 * r' + (s' + k) < 13 + 9 * r + s + n
      · have h9 := hown (13 + 9 * r' + (s' + k) - (13 + 9 * r + s)) (by omega)
        rw [show 13 + 9 * r + (s + (13 + 9 * r' + (s' + k) - (13 + 9 * r + s))) = 13 + 9 * r' + (s' + k) by omega, h8] at h9
        exact absurd (nI_inj (by omega) (by omega) h9) h3
      · rw [layF_out hin]
        exact h8
    · exact Or.inr (Or.inl ⟨by rw [big _ (by omega)]; exact t1, t2, by rw [big _ (by omega)]; exact t3⟩)
    · exact Or.inr (Or.inr ⟨by rw [big _ (by omega)]; exact t1, t2, by rw [big _ (by omega)]; exact t3, t4⟩)
  · have hN' := hN r' hr'
    by_cases hin : 13 + 9 * r + s ≤ 13 + 9 * r' + s' ∧ 13 + 9 * r' + s' < 13 + 9 * r + s + n
    · exact Or.inl (layF_in hin)
    · rcases hOw r' hr' s' hs' with h | ⟨x, n', s0, q1, q2, q3, q4, q5, q6, q7, q8, q9, q10, q11⟩
      · exact Or.inl (by rw [layF_out hin]; exact h)
      · refine Or.inr ⟨x, n', s0, q1, q2, fun e => ?_, by rw [layF_out hin]; exact q4, by rw [big _ (by omega)]; exact q5, by rw [big _ (by omega)]; exact q6, by rw [big _ (by omega)]; exact q7, by rw [big _ (by omega)]; exact q8, q9, q10, q11⟩
        subst e
        rw [h46] at q6
        rw [h47] at q7
        rw [hn] at q8
        have hpn := hPN x q1 q2
        obtain ⟨-, -, ⟨n2, -, h26, hn2⟩, -⟩ := hpn
        rw [hn] at hn2
        obtain ⟨-, hst⟩ := hPt x q1 q2 (by omega)
        rcases hst with ⟨t1, n3, r3, s3, t2, t3, t4, t5, t6, t7, t8⟩ | ⟨t1, t2, t3⟩ | ⟨t1, t2, t3, t4⟩
        · have hN3 := hN r3 t3
          rw [h46] at t5
          rw [h47] at t6
          rw [hn] at t2
          have e1 := nI_inj (by omega) (by omega) t5
          have e2 := nI_inj (by omega) (by omega) t6
          have e3 := nI_inj (by omega) (by omega) t2
          have e4 := nI_inj (by omega) (by omega) q6
          have e5 : s = s0 := by
            by_cases hs0 : s0 < 1000
            · exact nI_inj (by omega) hs0 q7
            · omega
          have e6 : n = n' := nI_inj (by omega) (by omega) q8
          omega
        · rw [h45] at t1
          exact absurd (nI_inj (by decide) (by decide) t1) (by decide)
        · rw [h45] at t1
          exact absurd (nI_inj (by decide) (by decide) t1) (by decide)
  · have hN' := hN r' hr'
    by_cases er : r' = r
    · subst er
      rw [upd_at, hfr r' hr', Mk_or]
      refine Mk_cong (fun k hk => ?_)
      unfold FA frW spn
      by_cases hin : s ≤ k ∧ k < s + n
      · rw [layF_in (by omega), decide_eq_true hin.1, decide_eq_true hin.2, decide_eq_true (show k < N r' by omega)]
        simp
      · rw [layF_out (by omega)]
        by_cases h1 : s ≤ k
        · rw [decide_eq_false (show ¬ k < s + n by omega)]
          simp
        · rw [decide_eq_false h1]
          simp
    · rw [upd_ne er, hfr r' hr']
      refine FA_cong (fun k hk => ?_)
      unfold frW
      rw [layF_out (by omega)]
  · obtain ⟨x', q1, q2, q3, q4, q5⟩ := hqm x hx
    refine ⟨x', q1, q2, fun e => ?_, q4, by rw [big _ (by omega)]; exact q5⟩
    rw [e, h45] at q5
    exact absurd (nI_inj (by decide) (by decide) q5) (by decide)
