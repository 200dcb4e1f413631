/-! the search for the best place: what both sides compute, and the class's side of it -/
abbrev Acc : Type := Nat × Nat × Nat × Nat
def acc0 : Acc := (0, 0, 0, 0)
def accC (A : Acc) (pl q p : Nat) : Acc := if A.1 = 0 ∨ A.2.2.1 < q ∨ (q = A.2.2.1 ∧ p < A.2.2.2) then (A.1 + 1, pl, q, p) else (A.1 + 1, A.2)
def rowS (ok : Nat → Bool) (qu : Nat → Nat) (r p : Nat) (A : Acc) : Nat → Acc
  | 0 => A
  | n + 1 => if ok n then accC (rowS ok qu r p A n) (10 * r + n) (qu n) p else rowS ok qu r p A n
def allS (op : Nat → Bool) (ok : Nat → Nat → Bool) (qu : Nat → Nat → Nat) (N pr : Nat → Nat) : Nat → Acc
  | 0 => acc0
  | r + 1 => if op r then rowS (ok r) (qu r) r (pr r) (allS op ok qu N pr r) (N r) else allS op ok qu N pr r
def accOk (A : Acc) (B : Nat) : Prop := A.1 ≤ B ∧ A.2.1 < 100 ∧ A.2.2.1 < 100 ∧ A.2.2.2 < 100
def plI (A : Acc) : Int32 := if A.1 = 0 then (-9 : Int32) else nI A.2.1
theorem accC_ok {A : Acc} {B pl q p : Nat} (h : accOk A B) (h1 : pl < 100) (h2 : q < 100) (h3 : p < 100) : accOk (accC A pl q p) (B + 1) := by
  obtain ⟨a1, a2, a3, a4⟩ := h
  unfold accC
  split
  · exact ⟨by show A.1 + 1 ≤ B + 1; omega, h1, h2, h3⟩
  · exact ⟨by show A.1 + 1 ≤ B + 1; omega, a2, a3, a4⟩
theorem accOk.up {A : Acc} {B C : Nat} (h : accOk A B) (hB : B ≤ C) : accOk A C := ⟨Nat.le_trans h.1 hB, h.2⟩
theorem rowS_ok {ok : Nat → Bool} {qu : Nat → Nat} {r p : Nat} {A : Acc} {B n : Nat} (h : accOk A B) (hr : r < 4) (hn : n ≤ 9) (hq : ∀ k, qu k < 100) (hp : p < 100) : accOk (rowS ok qu r p A n) (B + n) := by
  induction n with
  | zero => exact h
  | succ n ih =>
    have h1 := ih (by omega)
    rw [rowS]
    split
    · exact accC_ok h1 (by omega) (hq n) hp
    · exact h1.up (by omega)
theorem m9 {n : Nat} (h : n < 100) : ¬ nI n = (-9 : Int32) := by
  intro e
  have h1 := congrArg Int32.toInt e
  rw [nI_toInt (by omega)] at h1
  have h2 : (-9 : Int32).toInt = -9 := by decide
  omega
theorem plI_9 {A : Acc} {B : Nat} (h : accOk A B) : plI A = (-9 : Int32) ↔ A.1 = 0 := by
  unfold plI
  constructor
  · intro e
    by_cases h0 : A.1 = 0
    · exact h0
    · rw [if_neg h0] at e
      exact absurd e (m9 h.2.1)
  · intro h0
    rw [if_pos h0]
theorem c_consider {A : Acc} {B pl q p : Nat} (h : accOk A B) (hB : B < 1000) (h1 : pl < 100) (h2 : q < 100) (h3 : p < 100) : fX1_consider (nI A.1) (plI A) (nI A.2.2.1) (nI A.2.2.2) (nI pl) (nI q) (nI p) = some (nI (accC A pl q p).1, plI (accC A pl q p), nI (accC A pl q p).2.2.1, nI (accC A pl q p).2.2.2) := by
  have hn : A.1 + 1 ≠ 0 := by omega
  obtain ⟨a1, a2, a3, a4⟩ := id h
  unfold fX1_consider fX1_consider_43
  rw [nI_1]
  by_cases c0 : A.1 = 0
  · rw [if_pos ((plI_9 h).mpr c0)]
    have e : accC A pl q p = (A.1 + 1, pl, q, p) := if_pos (Or.inl c0)
    rw [e]
    unfold plI
    rw [if_neg hn]
  · rw [if_neg (fun e => c0 ((plI_9 h).mp e))]
    by_cases c1 : A.2.2.1 < q
    · rw [if_pos (nI_lt c1 (by omega))]
      have e : accC A pl q p = (A.1 + 1, pl, q, p) := if_pos (Or.inr (Or.inl c1))
      rw [e]
      unfold plI
      rw [if_neg hn]
    · rw [if_neg (nI_nlt (by omega) (by omega))]
      by_cases c2 : q = A.2.2.1
      · rw [if_pos (by rw [c2])]
        by_cases c3 : p < A.2.2.2
        · rw [if_neg (nI_ge c3 (by omega))]
          have e : accC A pl q p = (A.1 + 1, pl, q, p) := if_pos (Or.inr (Or.inr ⟨c2, c3⟩))
          rw [e]
          unfold plI
          rw [if_neg hn]
        · rw [if_pos (nI_le (by omega) (by omega))]
          have e : accC A pl q p = (A.1 + 1, A.2) := if_neg (fun z => by omega)
          rw [e]
          unfold plI
          rw [if_neg hn, if_neg c0]
      · rw [if_neg (fun z => c2 ((nI_eq (by omega) (by omega)).mp z))]
        have e : accC A pl q p = (A.1 + 1, A.2) := if_neg (fun z => by omega)
        rw [e]
        unfold plI
        rw [if_neg hn, if_neg c0]
theorem c_hasRow {R r : Nat} (hR : R ≤ 4) (hr : r < 2 ^ 31) : fX4_hasRow (nI R) (nI r) = some (bI (decide (r < R))) := by
  unfold fX4_hasRow
  rw [if_neg (nI_pos hr)]
  by_cases h : r < R
  · rw [if_neg (nI_ge h (by omega)), decide_eq_true h]
    rfl
  · rw [if_pos (nI_le (by omega) hr), decide_eq_false h]
    rfl
theorem c_hasRow1 {R r : Nat} (hR : R ≤ 4) (hr : r < R) : fX4_hasRow (nI R) (nI r) = some 1 := by
  rw [c_hasRow hR (by omega), decide_eq_true hr]
  rfl
theorem c_seatsIn {R r : Nat} {se : Nat → Int32} (hR : R ≤ 4) (hr : r < R) : fX4_seatsIn (nI R) se (nI r) = some (se r) := by
  unfold fX4_seatsIn
  rw [c_hasRow1 hR hr, Option.bind_some, if_neg (by decide), if_neg (nI_in (by omega) (by decide)), nI_clamp (by omega)]
theorem c_isRow1 {r : Nat} (hr : r < 4) : fX0_isRow (nI r) = some 1 := by
  unfold fX0_isRow
  rw [if_neg (nI_pos (by omega)), if_neg (show ¬ (4 : Int32) ≤ nI r from nI_ge (b := 4) hr (by decide))]
theorem c_priceOf {r : Nat} {pr : Nat → Int32} (hr : r < 4) : fX0_priceOf pr (nI r) = some (pr r) := by
  unfold fX0_priceOf
  rw [c_isRow1 hr, Option.bind_some, if_neg (by decide), if_neg (nI_in hr (by decide)), nI_clamp (by omega)]
theorem c_freeIn {r : Nat} {fr : Nat → Int32} (hr : r < 4) : fX0_freeIn fr (nI r) = some (fr r) := by
  unfold fX0_freeIn
  rw [c_isRow1 hr, Option.bind_some, if_neg (by decide), if_neg (nI_in hr (by decide)), nI_clamp (by omega)]
theorem c_loneOf {R r : Nat} {jo : Nat → Int32} {F J : Nat → Bool} (hR : R ≤ 4) (hr : r < R) (hj : jo r = Mk J) (hF : ∀ k, 9 ≤ k → F k = false) : fX4_loneOf (nI R) jo (nI r) (Mk F) = some (Mk (loB F J)) := by
  unfold fX4_loneOf
  rw [c_hasRow1 hR hr, Option.bind_some, if_neg (by decide), if_neg (nI_in (by omega) (by decide)), if_neg (nI_in (by omega) (by decide)), nI_clamp (by omega), hj, Mk_lone F J hF]
def spn (s n i : Nat) : Bool := decide (s ≤ i) && decide (i < s + n)
theorem c_span {s n : Nat} (hn : n ≤ 6) (hs : s + n ≤ 9) : fX8_span (nI s) (nI n) = some (Mk (spn s n)) := by
  unfold fX8_span
  rw [span_bits n hn s (by omega) hs]
  rfl
theorem sub_iff (F : Nat → Bool) {s n : Nat} (h : s + n ≤ 9) : (Mk F &&& Mk (spn s n) = Mk (spn s n)) ↔ ∀ k, k < n → F (s + k) = true := by
  rw [Mk_and]
  constructor
  · intro e k hk
    have h1 := Mk_inj e (k := s + k) (by omega)
    unfold spn at h1
    rw [decide_eq_true (show s ≤ s + k by omega), decide_eq_true (show s + k < s + n by omega)] at h1
    simpa using h1
  · intro hk
    refine Mk_cong (fun i hi => ?_)
    unfold spn
    by_cases h1 : s ≤ i
    · by_cases h2 : i < s + n
      · have h3 := hk (i - s) (by omega)
        rw [show s + (i - s) = i by omega] at h3
        simp [h1, h2, h3]
      · simp [h2]
    · simp [h1]
theorem c_isUnbroken {R r s n : Nat} {jo : Nat → Int32} {J : Nat → Bool} (hR : R ≤ 4) (hr : r < R) (hj : jo r = Mk J) (h1 : 1 ≤ n) (hn : n ≤ 6) (hs : s + n ≤ 9) : fX4_isUnbroken (nI R) jo (nI r) (nI s) (nI n) = some (bI (decide (∀ k, k < n - 1 → J (s + k) = true))) := by
  unfold fX4_isUnbroken
  rw [show nI n - 1 = nI (n - 1) from sub1 h1, c_span (by omega) (by omega), Option.bind_some, c_hasRow1 hR hr, Option.bind_some, if_neg (by decide), if_neg (nI_in (by omega) (by decide)), nI_clamp (by omega), hj]
  by_cases h : ∀ k, k < n - 1 → J (s + k) = true
  · rw [if_pos ((sub_iff J (by omega)).mpr h), decide_eq_true h]
    rfl
  · rw [if_neg (fun e => h ((sub_iff J (by omega)).mp e)), decide_eq_false h]
    rfl
