/-! the reference's functions on one row: free seats, lone seats, views, laying -/
def frW (w : Nat → Int32) (r s : Nat) : Bool := decide (w (13 + 9 * r + s) = 0)
def loM (N : Nat) (a F : Nat → Bool) (s : Nat) : Bool := F s && !(decide (0 < s) && !a (s - 1) && F (s - 1)) && !(decide (s + 1 < N) && !a s && F (s + 1))
theorem ix_own (r s : Nat) : (13 : Int32) + (9 : Int32) * nI r + nI s = nI (13 + 9 * r + s) := by
  rw [show (9 : Int32) = nI 9 from rfl, pk_mul, show (13 : Int32) = nI 13 from rfl, nI_add, nI_add]
theorem m_isFree {w : Nat → Int32} {r s : Nat} (hr : r < 4) (hs : s < 9) : fX9_isFree w (nI r) (nI s) = some (bI (frW w r s)) := by
  unfold fX9_isFree frW
  rw [ix_own, if_neg (nI_in (by omega) (by decide)), nI_clamp (by omega)]
  by_cases h : w (13 + 9 * r + s) = 0
  · rw [if_pos h, decide_eq_true h]
    rfl
  · rw [if_neg h, decide_eq_false h]
    rfl
theorem m_80 {mn al w : Nat → Int32} {r s : Nat} (hr : r < 4) (hs : s < 9) (x k : Bool) : fX9_isLone_80 mn al w (nI r) (nI s) (bI x) (bI k) = some (bI (frW w r s && !x && !k)) := by
  unfold fX9_isLone_80
  rw [m_isFree hr hs]
  simp only [Option.bind_some, bI_0]
  cases frW w r s <;> cases x <;> cases k <;> rfl
theorem m_36 {mn al w : Nat → Int32} {N : Nat} {a : Nat → Bool} {r s : Nat} (hr : r < 4) (hN : mn r = nI N) (hN9 : N ≤ 9) (hs : s < N) (ha : ∀ k, k < N → al (9 * r + k) = bI (a k)) (x : Bool) : fX9_isLone_36 mn al w (nI r) (nI s) (bI x) = some (bI (frW w r s && !x && !(decide (s + 1 < N) && !a s && frW w r (s + 1)))) := by
  unfold fX9_isLone_36 fX9_isLone_79
  have z : (0 : Int32) = bI false := rfl
  have o : (1 : Int32) = bI true := rfl
  by_cases h : s + 1 < N
  · rw [if_neg (nI_in hr (by decide)), nI_clamp (by omega), hN, nI_1, if_neg (nI_ge h (by omega))]
    rw [show (9 : Int32) * nI r + nI s = nI (9 * r + s) by rw [show (9 : Int32) = nI 9 from rfl, pk_mul, nI_add], if_neg (nI_in (by omega) (by decide)), nI_clamp (by omega), ha s hs, m_isFree hr (by omega)]
    simp only [Option.bind_some, bI_0]
    rw [z, o, m_80 hr (by omega), m_80 hr (by omega), decide_eq_true h]
    cases a s <;> cases frW w r (s + 1) <;> simp
  · rw [if_neg (nI_in hr (by decide)), nI_clamp (by omega), hN, nI_1, if_pos (nI_le (by omega) (by omega)), z, m_80 hr (by omega), decide_eq_false h]
    simp
theorem m_isLone {mn al w : Nat → Int32} {N : Nat} {a : Nat → Bool} {r s : Nat} (hr : r < 4) (hN : mn r = nI N) (hN9 : N ≤ 9) (hs : s < N) (ha : ∀ k, k < N → al (9 * r + k) = bI (a k)) : fX9_isLone mn al w (nI r) (nI s) = some (bI (loM N a (frW w r) s)) := by
  unfold fX9_isLone fX9_isLone_35 loM
  have z : (0 : Int32) = bI false := rfl
  have o : (1 : Int32) = bI true := rfl
  by_cases h : s = 0
  · subst h
    rw [if_pos (by decide), z, m_36 hr hN hN9 hs ha]
    simp
  · obtain ⟨t, rfl⟩ : ∃ t, s = t + 1 := ⟨s - 1, by omega⟩
    rw [if_neg (nI_nle (by omega) (by omega))]
    rw [show (9 : Int32) * nI r + nI (t + 1) - 1 = nI (9 * r + t) by rw [show (9 : Int32) = nI 9 from rfl, pk_mul, nI_add, ← Nat.add_assoc, nI_pred], if_neg (nI_in (by omega) (by decide)), nI_clamp (by omega), ha t (by omega), nI_pred, m_isFree hr (by omega)]
    simp only [Option.bind_some, bI_0]
    rw [z, o, m_36 hr hN hN9 hs ha, m_36 hr hN hN9 hs ha]
    rw [decide_eq_true (show 0 < t + 1 by omega), Nat.add_sub_cancel]
    cases a t <;> cases frW w r t <;> simp
theorem or_bit {P : Nat → Bool} {s : Nat} (hs : s < 9) : (nI (mkN P s) ||| (if P s then nI (2 ^ s) else nI 0)) = nI (mkN P (s + 1)) := by
  rw [mkN_s]
  by_cases h : P s = true
  · rw [if_pos h, if_pos h, fa_or, Nat.or_comm]
    have h1 := fa_or_sum (a := mkN P s) (k := s) 1 (mkN_lt P s)
    rw [fa_or, Nat.mul_one] at h1
    rw [h1, Nat.add_comm]
  · rw [if_neg h, if_neg h, fa_or, Nat.or_zero, Nat.add_zero]
theorem m_loneLoop {mn al w : Nat → Int32} {N : Nat} {a : Nat → Bool} {r : Nat} (hr : r < 4) (hN : mn r = nI N) (hN9 : N ≤ 9) (ha : ∀ k, k < N → al (9 * r + k) = bI (a k)) : ∀ n s, s ≤ N → N + 1 ≤ s + n → fX9_loneIn_5 n mn al w (nI r) (nI (mkN (loM N a (frW w r)) s)) (nI s) = some (nI (mkN (loM N a (frW w r)) N)) := by
  intro n
  induction n with
  | zero => intro s h1 h2; omega
  | succ n ih =>
    intro s h1 h2
    rw [fX9_loneIn_5, if_neg (nI_in hr (by decide)), nI_clamp (by omega), hN]
    by_cases h : s = N
    · subst h
      rw [if_pos (nI_le (Nat.le_refl _) (by omega))]
    · have hs : s < N := by omega
      rw [if_neg (nI_ge hs (by omega)), m_isLone hr hN hN9 hs ha]
      simp only [Option.bind_some, bI_0]
      have hb := or_bit (P := loM N a (frW w r)) (s := s) (by omega)
      rw [show (0 : Int32) = nI 0 from rfl, sh1 s (by omega), nI_1]
      cases hl : loM N a (frW w r) s
      · rw [hl] at hb
        rw [if_pos rfl, show nI (mkN (loM N a (frW w r)) s) ||| nI 0 = _ from hb]
        exact ih (s + 1) (by omega) (by omega)
      · rw [hl] at hb
        rw [if_neg (by decide), show nI (mkN (loM N a (frW w r)) s) ||| nI (2 ^ s) = _ from hb]
        exact ih (s + 1) (by omega) (by omega)
theorem m_loneIn {mn al w : Nat → Int32} {N : Nat} {a : Nat → Bool} {r : Nat} (hr : r < 4) (hN : mn r = nI N) (hN9 : N ≤ 9) (ha : ∀ k, k < N → al (9 * r + k) = bI (a k)) : fX9_loneIn mn al w (nI r) = some (nI (mkN (loM N a (frW w r)) N)) := m_loneLoop hr hN hN9 ha FU 0 (by omega) (by have := FU_ge (k := 10) (by decide); omega)
theorem m_freeLoop {mn w : Nat → Int32} {N : Nat} {r : Nat} (hr : r < 4) (hN : mn r = nI N) (hN9 : N ≤ 9) : ∀ n s, s ≤ N → N + 1 ≤ s + n → fX9_freeIn_5 n mn w (nI r) (nI (mkN (frW w r) s)) (nI s) = some (nI (mkN (frW w r) N)) := by
  intro n
  induction n with
  | zero => intro s h1 h2; omega
  | succ n ih =>
    intro s h1 h2
    rw [fX9_freeIn_5, if_neg (nI_in hr (by decide)), nI_clamp (by omega), hN]
    by_cases h : s = N
    · subst h
      rw [if_pos (nI_le (Nat.le_refl _) (by omega))]
    · have hs : s < N := by omega
      rw [if_neg (nI_ge hs (by omega)), m_isFree hr (by omega)]
      simp only [Option.bind_some, bI_0]
      have hb := or_bit (P := frW w r) (s := s) (by omega)
      rw [show (0 : Int32) = nI 0 from rfl, sh1 s (by omega), nI_1]
      cases hl : frW w r s
      · rw [hl] at hb
        rw [if_pos rfl, show nI (mkN (frW w r) s) ||| nI 0 = _ from hb]
        exact ih (s + 1) (by omega) (by omega)
      · rw [hl] at hb
        rw [if_neg (by decide), show nI (mkN (frW w r) s) ||| nI (2 ^ s) = _ from hb]
        exact ih (s + 1) (by omega) (by omega)
theorem m_freeIn {mn w : Nat → Int32} {N : Nat} {r : Nat} (hr : r < 4) (hN : mn r = nI N) (hN9 : N ≤ 9) : fX9_freeIn mn w (nI r) = some (nI (mkN (frW w r) N)) := m_freeLoop hr hN hN9 FU 0 (by omega) (by have := FU_ge (k := 10) (by decide); omega)
theorem on_loop {k : Nat} (hk : k < 512) : ∀ n i, i ≤ 9 → 10 ≤ i + n → fX9_ones_4 n (nI k) (nI (fb_ct (fun i => k.testBit i) i)) (nI i) = some (nI (fb_ct (fun i => k.testBit i) 9)) := by
  intro n
  induction n with
  | zero => intro i h1 h2; omega
  | succ n ih =>
    intro i h1 h2
    rw [fX9_ones_4]
    by_cases h : i = 9
    · subst h
      rw [if_pos (by decide)]
    · rw [if_neg (show ¬ (9 : Int32) ≤ nI i from nI_ge (b := 9) (by omega) (by decide)), pk_shrN (by omega) _ i (s_l i (by omega)), show nI (k / 2 ^ i) &&& 1 = nI (k / 2 ^ i % 2 ^ 1) from fa_mask _ 1, nI_add, nI_1]
      have e : fb_ct (fun i => k.testBit i) i + k / 2 ^ i % 2 ^ 1 = fb_ct (fun i => k.testBit i) (i + 1) := by
        rw [fb_ct_succ, Nat.testBit_eq_decide_div_mod_eq, Nat.pow_one]
        by_cases h3 : k / 2 ^ i % 2 = 1
        · rw [h3]; rfl
        · have h4 : k / 2 ^ i % 2 = 0 := by omega
          rw [h4]; rfl
      rw [e]
      exact ih (i + 1) (by omega) (by omega)
theorem on512 {k : Nat} (hk : k < 512) : fX9_ones (nI k) = some (nI (fb_ct (fun i => k.testBit i) 9)) := on_loop hk FU 0 (by omega) (by have := FU_ge (k := 10) (by decide); omega)
theorem ct_less {P : Nat → Bool} {N : Nat} (m : Nat) : fb_ct (fun i => decide (i < N) && P i) (N + m) = fb_ct P N := by
  induction m with
  | zero => exact fb_ct_cong (fun k hk => by simp only [Nat.add_zero] at hk; simp [hk])
  | succ m ih =>
    rw [← Nat.add_assoc, fb_ct_succ, ih]
    have h : ¬ N + m < N := by omega
    simp [h]
theorem m_ones {P : Nat → Bool} {N : Nat} (hN : N ≤ 9) : fX9_ones (nI (mkN P N)) = some (nI (fb_ct P N)) := by
  have h1 : mkN P N < 512 := Nat.lt_of_lt_of_le (mkN_lt P N) (Nat.pow_le_pow_right (by decide) hN)
  rw [on512 h1]
  have h2 := ct_less (P := P) (N := N) (9 - N)
  rw [show N + (9 - N) = 9 by omega] at h2
  rw [← h2]
  congr 2
  exact fb_ct_cong (fun k _ => mkN_bit P N k)
