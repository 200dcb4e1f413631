/-! tests of arguments, for any int -/
theorem m_in (x a b : Int32) : fX9_in x.toInt64 a.toInt64 b.toInt64 = some (bI (decide (a ≤ x ∧ x ≤ b))) := by
  unfold fX9_in
  by_cases h1 : x < a
  · rw [if_pos ((lg_cmp_lt _ _).mpr ((fa_wide_lt x a).mpr h1)), decide_eq_false (fun h => by have := (fa_lt _ _).mp h1; have := (fa_le _ _).mp h.1; omega)]
    rfl
  · rw [if_neg (fun q => h1 ((fa_wide_lt x a).mp ((lg_cmp_lt _ _).mp q)))]
    by_cases h2 : b < x
    · rw [if_pos ((lg_cmp_gt _ _).mpr ((fa_wide_lt b x).mpr h2)), decide_eq_false (fun h => by have := (fa_lt _ _).mp h2; have := (fa_le _ _).mp h.2; omega)]
      rfl
    · rw [if_neg (fun q => h2 ((fa_wide_lt b x).mp ((lg_cmp_gt _ _).mp q))), decide_eq_true ⟨fa_of_nlt h1, fa_of_nlt h2⟩]
      rfl
theorem toInt_nI {n : Nat} (h : n < 2 ^ 31) : (nI n).toInt = n := by
  have h2 := nI_clamp h
  have h3 : ¬ nI n < 0 := nI_pos h
  have h4 : (0 : Int32) ≤ nI n := fa_of_nlt h3
  have h5 := (fa_le _ _).mp h4
  have h6 : (nI n).toNatClampNeg = (nI n).toInt.toNat := rfl
  have h7 : (0 : Int32).toInt = 0 := rfl
  omega
/-- an int that lies in a range is one of its numbers -/
theorem rg {x : Int32} {lo hi : Nat} (hhi : hi < 2 ^ 31) (h1 : nI lo ≤ x) (h2 : x ≤ nI hi) (hlo : lo < 2 ^ 31) : ∃ k, lo ≤ k ∧ k ≤ hi ∧ x = nI k := by
  have e1 := (fa_le _ _).mp h1
  have e2 := (fa_le _ _).mp h2
  rw [toInt_nI hlo] at e1
  rw [toInt_nI hhi] at e2
  refine ⟨x.toInt.toNat, by omega, by omega, ?_⟩
  rw [fa_eq, toInt_nI (by omega)]
  omega
theorem rg0 {x : Int32} {hi : Nat} (hhi : hi < 2 ^ 31) (h1 : 0 ≤ x) (h2 : x < nI hi) : ∃ k, k < hi ∧ x = nI k := by
  have e1 := (fa_le _ _).mp h1
  have e2 := (fa_lt _ _).mp h2
  have e3 : (0 : Int32).toInt = 0 := rfl
  rw [toInt_nI hhi] at e2
  refine ⟨x.toInt.toNat, by omega, ?_⟩
  rw [fa_eq, toInt_nI (by omega)]
  omega
def inR (x : Int32) (lo hi : Nat) : Bool := decide (nI lo ≤ x ∧ x ≤ nI hi)
theorem inR_at {x : Int32} {lo hi : Nat} (hhi : hi < 2 ^ 31) (hlo : lo < 2 ^ 31) (h : inR x lo hi = true) : ∃ k, lo ≤ k ∧ k ≤ hi ∧ x = nI k := by
  have h2 := of_decide_eq_true h
  exact rg hhi h2.1 h2.2 hlo
theorem nI_le' {a b : Nat} (h : a ≤ b) (hb : b < 2 ^ 31) : nI a ≤ nI b := (fa_le _ _).mpr (by rw [toInt_nI (by omega), toInt_nI hb]; omega)
theorem nI_lt' {a b : Nat} (h : a < b) (hb : b < 2 ^ 31) : nI a < nI b := (fa_lt _ _).mpr (by rw [toInt_nI (by omega), toInt_nI hb]; omega)
theorem inR_nI {k lo hi : Nat} (h1 : lo ≤ k) (h2 : k ≤ hi) (hhi : hi < 2 ^ 31) : inR (nI k) lo hi = true := decide_eq_true ⟨nI_le' h1 (by omega), nI_le' h2 hhi⟩
/-- the class's way to test a range -/
theorem c_rg {x : Int32} {lo hi : Nat} : (if x < nI lo then some (0 : Int32) else if nI hi < x then some 0 else some 1) = some (bI (inR x lo hi)) := by
  unfold inR
  by_cases h1 : x < nI lo
  · rw [if_pos h1, decide_eq_false (fun h => by have := (fa_lt _ _).mp h1; have := (fa_le _ _).mp h.1; omega)]
    rfl
  · rw [if_neg h1]
    by_cases h2 : nI hi < x
    · rw [if_pos h2, decide_eq_false (fun h => by have := (fa_lt _ _).mp h2; have := (fa_le _ _).mp h.2; omega)]
      rfl
    · rw [if_neg h2, decide_eq_true ⟨fa_of_nlt h1, fa_of_nlt h2⟩]
      rfl
def inQ (x : Int32) (hi : Nat) : Bool := decide (0 ≤ x ∧ x < nI hi)
theorem inQ_at {x : Int32} {hi : Nat} (hhi : hi < 2 ^ 31) (h : inQ x hi = true) : ∃ k, k < hi ∧ x = nI k := by
  have h2 := of_decide_eq_true h
  exact rg0 hhi h2.1 h2.2
theorem inQ_nI {k hi : Nat} (h2 : k < hi) (hhi : hi < 2 ^ 31) : inQ (nI k) hi = true := decide_eq_true ⟨nI_le' (a := 0) (by omega) (by omega), nI_lt' h2 hhi⟩
theorem c_rgQ {x : Int32} {hi : Nat} : (if x < 0 then some (0 : Int32) else if nI hi ≤ x then some 0 else some 1) = some (bI (inQ x hi)) := by
  unfold inQ
  by_cases h1 : x < 0
  · rw [if_pos h1, decide_eq_false (fun h => by have := (fa_lt _ _).mp h1; have := (fa_le _ _).mp h.1; omega)]
    rfl
  · rw [if_neg h1]
    by_cases h2 : nI hi ≤ x
    · rw [if_pos h2, decide_eq_false (fun h => by have := (fa_le _ _).mp h2; have := (fa_lt _ _).mp h.2; omega)]
      rfl
    · rw [if_neg h2, decide_eq_true ⟨fa_of_nlt h1, fa_of_nle h2⟩]
      rfl
theorem sub1_toInt {R : Nat} (h : R < 2 ^ 31) : (nI R - (1 : Int32)).toInt = (R : Int) - 1 := by
  have e1 : (1 : Int32).toInt = 1 := rfl
  have e2 := toInt_nI h
  rw [fb_subI (by omega) (by omega)]
  omega
theorem m_inQ {x : Int32} {R : Nat} (h : R < 2 ^ 31) : fX9_in x.toInt64 (0 : Int64) ((nI R - (1 : Int32)).toInt64) = some (bI (inQ x R)) := by
  rw [show (0 : Int64) = (0 : Int32).toInt64 from rfl, m_in]
  unfold inQ
  have e1 := sub1_toInt h
  have e2 := toInt_nI h
  have : (x ≤ nI R - 1) ↔ x < nI R := by
    rw [fa_le, fa_lt, e1, e2]
    omega
  rw [decide_eq_decide.mpr (and_congr_right (fun _ => this))]
theorem m_noRow {x : Int32} {R : Nat} (h : R < 2 ^ 31) : fX9_noRow (nI R) x = some (bI (!inQ x R)) := by
  unfold fX9_noRow
  rw [m_inQ h, Option.bind_some]
  cases inQ x R <;> rfl
theorem c_hasRowQ {x : Int32} {R : Nat} : fX4_hasRow (nI R) x = some (bI (inQ x R)) := c_rgQ
theorem c_knowsR {x : Int32} {a : Nat} : fX0_knows (nI a) x = some (bI (inR x 1 a)) := c_rg
theorem m_noParty {x : Int32} {a : Nat} {w : Nat → Int32} (h6 : w 6 = nI a) : fX9_noParty w x = some (bI (!inR x 1 a)) := by
  unfold fX9_noParty
  rw [c6, h6, show (1 : Int64) = (1 : Int32).toInt64 from rfl, m_in, Option.bind_some]
  have : decide ((1 : Int32) ≤ x ∧ x ≤ nI a) = inR x 1 a := rfl
  rw [this]
  cases inR x 1 a <;> rfl
theorem c_isSizeR {x : Int32} : fX8_isSize x = some (bI (inR x 1 6)) := c_rg
theorem c_isPriceR {x : Int32} : fX8_isPrice x = some (bI (inR x 1 9)) := c_rg
theorem m_inR (x : Int32) (lo hi : Nat) : fX9_in x.toInt64 ((nI lo).toInt64) ((nI hi).toInt64) = some (bI (inR x lo hi)) := m_in _ _ _
theorem m_in16 (x : Int32) : fX9_in x.toInt64 (1 : Int64) (6 : Int64) = some (bI (inR x 1 6)) := m_inR x 1 6
theorem m_in19 (x : Int32) : fX9_in x.toInt64 (1 : Int64) (9 : Int64) = some (bI (inR x 1 9)) := m_inR x 1 9
theorem m_isAskR {x y : Int32} : fX9_isAsk x y = some (bI (inR x 1 6 && inR y 1 9)) := by
  unfold fX9_isAsk
  rw [m_in16, Option.bind_some, m_in19, Option.bind_some]
  cases inR x 1 6 <;> cases inR y 1 9 <;> rfl
def inS (R : Nat) (N : Nat → Nat) (x y : Int32) : Bool := inQ x R && inQ y (N x.toNatClampNeg)
theorem inS_at {R : Nat} {N : Nat → Nat} {x y : Int32} (hR : R ≤ 4) (hN : ∀ r, r < R → N r ≤ 9) (h : inS R N x y = true) : ∃ r s, r < R ∧ s < N r ∧ x = nI r ∧ y = nI s := by
  unfold inS at h
  rw [Bool.and_eq_true] at h
  obtain ⟨r, hr, rfl⟩ := inQ_at (by omega) h.1
  have h2 := h.2
  rw [nI_clamp (by omega)] at h2
  have := hN r hr
  obtain ⟨s, hs, rfl⟩ := inQ_at (by omega) h2
  exact ⟨r, s, hr, hs, rfl, rfl⟩
theorem inS_nI {R : Nat} {N : Nat → Nat} {r s : Nat} (hR : R ≤ 4) (hN : ∀ r, r < R → N r ≤ 9) (hr : r < R) (hs : s < N r) : inS R N (nI r) (nI s) = true := by
  unfold inS
  have := hN r hr
  rw [inQ_nI hr (by omega), nI_clamp (by omega), inQ_nI hs (by omega)]
  rfl
theorem c_hasSeatS {R : Nat} {N : Nat → Nat} {se : Nat → Int32} {x y : Int32} (hR : R ≤ 4) (hse : ∀ r, r < R → se r = nI (N r)) : fX4_hasSeat (nI R) se x y = some (bI (inS R N x y)) := by
  unfold fX4_hasSeat inS
  rw [c_hasRowQ, Option.bind_some]
  cases h : inQ x R with
  | false => rfl
  | true =>
    obtain ⟨r, hr, rfl⟩ := inQ_at (by omega) h
    rw [if_neg (by decide), if_neg (nI_in (by omega) (by decide)), nI_clamp (by omega), hse r hr, Bool.true_and]
    exact c_rgQ
theorem m_noSeatS {R : Nat} {N : Nat → Nat} {mn : Nat → Int32} {x y : Int32} (hR : R ≤ 4) (hN : ∀ r, r < R → N r ≤ 9) (hmn : ∀ r, r < R → mn r = nI (N r)) : fX9_noSeat (nI R) mn x y = some (bI (!inS R N x y)) := by
  unfold fX9_noSeat inS
  rw [m_noRow (by omega), Option.bind_some]
  cases h : inQ x R with
  | false => rfl
  | true =>
    obtain ⟨r, hr, rfl⟩ := inQ_at (by omega) h
    have := hN r hr
    rw [if_pos (by decide), if_neg (nI_in (by omega) (by decide)), nI_clamp (by omega), hmn r hr, m_inQ (by omega), Option.bind_some, Bool.true_and]
    cases inQ y (N r) <;> rfl
