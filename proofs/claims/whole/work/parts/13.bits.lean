/-! small numbers, masks of nine bits, lone seats of a row -/
def bI (b : Bool) : Int32 := nI b.toNat
theorem bI_t : nI 1 = bI true := rfl
theorem bI_f : nI 0 = bI false := rfl
theorem bI_0 (b : Bool) : (bI b = 0) ↔ b = false := by cases b <;> decide
theorem bI_1 (b : Bool) : (bI b = 1) ↔ b = true := by cases b <;> decide
theorem bI_z (b : Bool) : (bI b = nI 0) ↔ b = false := by cases b <;> decide
theorem FU_ge {k : Nat} (h : k ≤ 5000) : k ≤ FU := h
theorem grd {k n : Nat} (h : k < n) (hn : n < 2 ^ 31) : (nI k < 0 ∨ n ≤ (nI k).toNatClampNeg) ↔ False := ⟨fun q => nI_in h hn q, False.elim⟩
theorem neg0 {k : Nat} (h : k < 2 ^ 31) : (nI k < 0) ↔ False := ⟨fun q => nI_pos h q, False.elim⟩
theorem le0 {k : Nat} (h : k < 2 ^ 31) : (nI k ≤ 0) ↔ k = 0 := by
  rw [← nI_0, nI_leI h (by decide)]
  omega
theorem eq0 {k : Nat} (h : k < 2 ^ 31) : (nI k = 0) ↔ k = 0 := by
  rw [← nI_0, nI_eq h (by decide)]
theorem pos0 {k : Nat} (h : k < 2 ^ 31) : (0 < nI k) ↔ 0 < k := by
  rw [← nI_0, nI_ltI (by decide) h]
theorem sub1 {k : Nat} (h : 1 ≤ k) : nI k - nI 1 = nI (k - 1) := pk_sub h
/-- the number of a set of the first n numbers -/
def mkN (P : Nat → Bool) : Nat → Nat := fb_sm (fun s => if P s then 2 ^ s else 0)
theorem mkN_0 (P : Nat → Bool) : mkN P 0 = 0 := rfl
theorem mkN_s (P : Nat → Bool) (n : Nat) : mkN P (n + 1) = mkN P n + (if P n then 2 ^ n else 0) := rfl
theorem mkN_lt (P : Nat → Bool) (n : Nat) : mkN P n < 2 ^ n := by
  induction n with
  | zero => exact (by decide : (0 : Nat) < 1)
  | succ n ih =>
    rw [mkN_s, Nat.pow_succ]
    split <;> omega
theorem mkN_cong {P Q : Nat → Bool} {n : Nat} (h : ∀ k, k < n → P k = Q k) : mkN P n = mkN Q n := fb_sm_cong (fun k hk => by rw [h k hk])
theorem mkN_more {P : Nat → Bool} {n : Nat} (m : Nat) (h : ∀ k, n ≤ k → P k = false) : mkN P (n + m) = mkN P n := by
  induction m with
  | zero => rfl
  | succ m ih =>
    rw [← Nat.add_assoc, mkN_s, ih, h (n + m) (by omega)]
    rfl
theorem mkN_bit (P : Nat → Bool) (n i : Nat) : (mkN P n).testBit i = (decide (i < n) && P i) := by
  induction n with
  | zero => rw [mkN_0, Nat.zero_testBit]; simp
  | succ n ih =>
    rw [mkN_s]
    have hlt := mkN_lt P n
    by_cases hP : P n = true
    · rw [if_pos hP, Nat.add_comm]
      by_cases hi : i = n
      · subst hi
        rw [Nat.testBit_two_pow_add_eq, Nat.testBit_lt_two_pow hlt]
        simp [hP]
      · by_cases h2 : i < n
        · rw [Nat.testBit_two_pow_add_gt h2, ih]
          simp [h2, Nat.lt_succ_of_lt h2]
        · rw [Nat.testBit_lt_two_pow (show 2 ^ n + mkN P n < 2 ^ i from Nat.lt_of_lt_of_le (show 2 ^ n + mkN P n < 2 ^ (n + 1) by rw [Nat.pow_succ]; omega) (Nat.pow_le_pow_right (by decide) (by omega)))]
          have h3 : ¬ i < n + 1 := by omega
          simp [h3]
    · rw [if_neg hP, Nat.add_zero, ih]
      by_cases hi : i = n
      · subst hi
        simp [hP]
      · have h3 : (i < n + 1) ↔ i < n := by omega
        simp [h3]
theorem bt_nI (n i : Nat) (hi : i < 32) : bt (nI n) i = n.testBit i := by
  unfold bt nI
  show (BitVec.ofNat 32 n).getLsbD i = _
  rw [BitVec.getLsbD_ofNat]
  simp [hi]
/-- a set of seats as a mask -/
def Mk (P : Nat → Bool) : Int32 := nI (mkN P 9)
theorem Mk_bit (P : Nat → Bool) {i : Nat} (hi : i < 32) : bt (Mk P) i = (decide (i < 9) && P i) := by
  unfold Mk
  rw [bt_nI _ _ hi, mkN_bit]
theorem Mk_ext {x : Int32} {P : Nat → Bool} (h : ∀ i, i < 32 → bt x i = (decide (i < 9) && P i)) : x = Mk P := b_ext (fun i hi => by rw [h i hi, Mk_bit P hi])
theorem Mk_cong {P Q : Nat → Bool} (h : ∀ k, k < 9 → P k = Q k) : Mk P = Mk Q := by unfold Mk; rw [mkN_cong h]
theorem Mk_inj {P Q : Nat → Bool} (h : Mk P = Mk Q) {k : Nat} (hk : k < 9) : P k = Q k := by
  have h1 := Mk_bit P (i := k) (by omega)
  rw [h, Mk_bit Q (by omega)] at h1
  simpa [hk] using h1.symm
theorem Mk_and (P Q : Nat → Bool) : Mk P &&& Mk Q = Mk (fun i => P i && Q i) := Mk_ext (fun i hi => by
  rw [b_and, Mk_bit _ hi, Mk_bit _ hi]
  cases decide (i < 9) <;> simp)
theorem Mk_not (P Q : Nat → Bool) : Mk P &&& (Mk Q ^^^ (-1)) = Mk (fun i => P i && !Q i) := Mk_ext (fun i hi => by
  rw [b_and, b_xor, Mk_bit _ hi, Mk_bit _ hi, b_m1 i hi]
  cases decide (i < 9) <;> simp)
theorem Mk_0 : Mk (fun _ => false) = 0 := by decide
theorem mkN_cnt (P : Nat → Bool) : fb_ct (fun i => (mkN P 9).testBit i) 9 = fb_ct P 9 := fb_ct_cong (fun k hk => by rw [mkN_bit]; simp [hk])
/-- what the class makes of a row's mask -/
def loB (F J : Nat → Bool) (i : Nat) : Bool := F i && !(F (i + 1) && J i) && !(decide (1 ≤ i) && (F (i - 1) && J (i - 1)))
theorem Mk_lone (F J : Nat → Bool) (hF : ∀ k, 9 ≤ k → F k = false) : (Mk F &&& (((Mk F >>> ((1 : Int32) &&& 31)) &&& Mk J) ^^^ (-1 : Int32))) &&& (((Mk F &&& Mk J) <<< ((1 : Int32) &&& 31)) ^^^ (-1 : Int32)) = Mk (loB F J) := by
  refine Mk_ext (fun i hi => ?_)
  rw [b_and, b_and, b_xor, b_xor, b_and, b_m1 i hi]
  rw [show (1 : Int32) = nI 1 from rfl, b_sshr 1 (by decide) _ hi, b_shl 1 (by decide) _ hi]
  by_cases h9 : i < 9
  · rw [if_pos (by omega), Mk_bit F hi, Mk_bit J hi, Mk_bit F (i := 1 + i) (by omega), b_and, Mk_bit F (i := i - 1) (by omega), Mk_bit J (i := i - 1) (by omega), Nat.add_comm 1 i]
    unfold loB
    have e1 : decide (i < 9) = true := decide_eq_true h9
    have e2 : decide (i - 1 < 9) = true := decide_eq_true (by omega)
    rw [e1, e2]
    by_cases h8 : i + 1 < 9
    · rw [decide_eq_true h8]
      simp
    · rw [decide_eq_false h8, hF (i + 1) (by omega)]
      simp
  · rw [Mk_bit F hi]
    have e1 : decide (i < 9) = false := decide_eq_false h9
    rw [e1]
    simp
theorem bc512 : ∀ k, k < 512 → fJ6_bitCount_0f7a4 (nI k) = some (nI (fb_ct (fun i => k.testBit i) 9)) := by decide +kernel
theorem bc_Mk (P : Nat → Bool) : fJ6_bitCount_0f7a4 (Mk P) = some (nI (fb_ct P 9)) := by
  unfold Mk
  rw [bc512 _ (mkN_lt P 9), mkN_cnt]
theorem sh1 : ∀ k, k < 31 → ((1 : Int32) <<< (nI k &&& 31)) = nI (2 ^ k) := by decide +kernel
theorem span_bits : ∀ n, n ≤ 6 → ∀ s, s ≤ 9 → s + n ≤ 9 → ((((1 : Int32) <<< (nI n &&& 31)) - (1 : Int32)) <<< (nI s &&& 31)) = Mk (fun i => decide (s ≤ i) && decide (i < s + n)) := by decide +kernel
