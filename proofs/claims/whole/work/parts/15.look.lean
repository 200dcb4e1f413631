/-! the search for the best place: what both sides compute, and the class's side of it -/
abbrev Acc : Type := Nat × Nat × Nat × Nat
def acc0 : Acc := (0, 0, 0, 0)
def accC (A : Acc) (pl q p : Nat) : Acc := if A.1 = 0 ∨ A.2.2.1 < q ∨ (q = A.2.2.1 ∧ p < A.2.2.2) then (A.1 + 1, pl, q, p) else (A.1 + 1, A.2)
def rowS (ok : Nat → Bool) (qu : Nat → Nat) (r p : Nat) (A : Acc) : Nat → Acc
  | 0 => A
  | n + 1 => if ok n then accC (rowS ok qu r p A n) (10 * r + n) (qu n) p else rowS ok qu r p A n
def allS (op : Nat → Bool) (ok : Nat → Nat → Bool) (qu : Nat → Nat → Nat) (N pr : Nat → Nat) : Nat → Acc
  | 0 => acc0
  | r + 1 => if op r then rowS (ok r) (qu r) r (pr r) (allS op ok qu N pr r) (N r) else allS op ok qu N pr r
def accOk (A : Acc) (B : Nat) : Prop := A.1 ≤ B ∧ A.2.1 < 100 ∧ A.2.2.1 < 100 ∧ A.2.2.2 < 100
def plI (A : Acc) : Int32 := if A.1 = 0 then (-9 : Int32) else nI A.2.1
theorem accC_ok {A : Acc} {B pl q p : Nat} (h : accOk A B) (h1 : pl < 100) (h2 : q < 100) (h3 : p < 100) : accOk (accC A pl q p) (B + 1) := by
  obtain ⟨a1, a2, a3, a4⟩ := h
  unfold accC
  split
  · exact ⟨by show A.1 + 1 ≤ B + 1; omega, h1, h2, h3⟩
  · exact ⟨by show A.1 + 1 ≤ B + 1; omega, a2, a3, a4⟩
theorem accOk.up {A : Acc} {B C : Nat} (h : accOk A B) (hB : B ≤ C) : accOk A C := ⟨Nat.le_trans h.1 hB, h.2⟩
theorem rowS_ok {ok : Nat → Bool} {qu : Nat → Nat} {r p : Nat} {A : Acc} {B n : Nat} (h : accOk A B) (hr : r < 4) (hn : n ≤ 9) (hq : ∀ k, qu k < 100) (hp : p < 100) : accOk (rowS ok qu r p A n) (B + n) := by
  induction n with
  | zero => exact h
  | succ n ih =>
    have h1 := ih (by omega)
    rw [rowS]
    split
    · exact accC_ok h1 (by omega) (hq n) hp
    · exact h1.up (by omega)
theorem m9 {n : Nat} (h : n < 100) : ¬ nI n = (-9 : Int32) := by
  intro e
  have h1 := congrArg Int32.toInt e
  rw [nI_toInt (by omega)] at h1
  have h2 : (-9 : Int32).toInt = -9 := by decide
  omega
theorem plI_9 {A : Acc} {B : Nat} (h : accOk A B) : plI A = (-9 : Int32) ↔ A.1 = 0 := by
  unfold plI
  constructor
  · intro e
    by_cases h0 : A.1 = 0
    · exact h0
    · rw [if_neg h0] at e
      exact absurd e (m9 h.2.1)
  · intro h0
    rw [if_pos h0]
theorem c_consider {A : Acc} {B pl q p : Nat} (h : accOk A B) (hB : B < 1000) (h1 : pl < 100) (h2 : q < 100) (h3 : p < 100) : fX1_consider (nI A.1) (plI A) (nI A.2.2.1) (nI A.2.2.2) (nI pl) (nI q) (nI p) = some (nI (accC A pl q p).1, plI (accC A pl q p), nI (accC A pl q p).2.2.1, nI (accC A pl q p).2.2.2) := by
  have hn : A.1 + 1 ≠ 0 := by omega
  obtain ⟨a1, a2, a3, a4⟩ := id h
  unfold fX1_consider fX1_consider_43
  rw [nI_1]
  by_cases c0 : A.1 = 0
  · rw [if_pos ((plI_9 h).mpr c0)]
    have e : accC A pl q p = (A.1 + 1, pl, q, p) := if_pos (Or.inl c0)
    rw [e]
    unfold plI
    rw [if_neg hn]
  · rw [if_neg (fun e => c0 ((plI_9 h).mp e))]
    by_cases c1 : A.2.2.1 < q
    · rw [if_pos (nI_lt c1 (by omega))]
      have e : accC A pl q p = (A.1 + 1, pl, q, p) := if_pos (Or.inr (Or.inl c1))
      rw [e]
      unfold plI
      rw [if_neg hn]
    · rw [if_neg (nI_nlt (by omega) (by omega))]
      by_cases c2 : q = A.2.2.1
      · rw [if_pos (by rw [c2])]
        by_cases c3 : p < A.2.2.2
        · rw [if_neg (nI_ge c3 (by omega))]
          have e : accC A pl q p = (A.1 + 1, pl, q, p) := if_pos (Or.inr (Or.inr ⟨c2, c3⟩))
          rw [e]
          unfold plI
          rw [if_neg hn]
        · rw [if_pos (nI_le (by omega) (by omega))]
          have e : accC A pl q p = (A.1 + 1, A.2) := if_neg (fun z => by omega)
          rw [e]
          unfold plI
          rw [if_neg hn, if_neg c0]
      · rw [if_neg (fun z => c2 ((nI_eq (by omega) (by omega)).mp z))]
        have e : accC A pl q p = (A.1 + 1, A.2) := if_neg (fun z => by omega)
        rw [e]
        unfold plI
        rw [if_neg hn, if_neg c0]
theorem c_hasRow {R r : Nat} (hR : R ≤ 4) (hr : r < 2 ^ 31) : fX4_hasRow (nI R) (nI r) = some (bI (decide (r < R))) := by
  unfold fX4_hasRow
  rw [if_neg (nI_pos hr)]
  by_cases h : r < R
  · rw [if_neg (nI_ge h (by omega)), decide_eq_true h]
    rfl
  · rw [if_pos (nI_le (by omega) hr), decide_eq_false h]
    rfl
theorem c_hasRow1 {R r : Nat} (hR : R ≤ 4) (hr : r < R) : fX4_hasRow (nI R) (nI r) = some 1 := by
  rw [c_hasRow hR (by omega), decide_eq_true hr]
  rfl
theorem c_seatsIn {R r : Nat} {se : Nat → Int32} (hR : R ≤ 4) (hr : r < R) : fX4_seatsIn (nI R) se (nI r) = some (se r) := by
  unfold fX4_seatsIn
  rw [c_hasRow1 hR hr, Option.bind_some, if_neg (by decide), if_neg (nI_in (by omega) (by decide)), nI_clamp (by omega)]
theorem c_isRow1 {r : Nat} (hr : r < 4) : fX0_isRow (nI r) = some 1 := by
  unfold fX0_isRow
  rw [if_neg (nI_pos (by omega)), if_neg (show ¬ (4 : Int32) ≤ nI r from nI_ge (b := 4) hr (by decide))]
theorem c_priceOf {r : Nat} {pr : Nat → Int32} (hr : r < 4) : fX0_priceOf pr (nI r) = some (pr r) := by
  unfold fX0_priceOf
  rw [c_isRow1 hr, Option.bind_some, if_neg (by decide), if_neg (nI_in hr (by decide)), nI_clamp (by omega)]
theorem c_freeIn {r : Nat} {fr : Nat → Int32} (hr : r < 4) : fX0_freeIn fr (nI r) = some (fr r) := by
  unfold fX0_freeIn
  rw [c_isRow1 hr, Option.bind_some, if_neg (by decide), if_neg (nI_in hr (by decide)), nI_clamp (by omega)]
theorem c_loneOf {R r : Nat} {jo : Nat → Int32} {F J : Nat → Bool} (hR : R ≤ 4) (hr : r < R) (hj : jo r = Mk J) (hF : ∀ k, 9 ≤ k → F k = false) : fX4_loneOf (nI R) jo (nI r) (Mk F) = some (Mk (loB F J)) := by
  unfold fX4_loneOf
  rw [c_hasRow1 hR hr, Option.bind_some, if_neg (by decide), if_neg (nI_in (by omega) (by decide)), if_neg (nI_in (by omega) (by decide)), nI_clamp (by omega), hj, Mk_lone F J hF]
def spn (s n i : Nat) : Bool := decide (s ≤ i) && decide (i < s + n)
theorem c_span {s n : Nat} (hn : n ≤ 6) (hs : s + n ≤ 9) : fX8_span (nI s) (nI n) = some (Mk (spn s n)) := by
  unfold fX8_span
  rw [span_bits n hn s (by omega) hs]
  rfl
theorem sub_iff (F : Nat → Bool) {s n : Nat} (h : s + n ≤ 9) : (Mk F &&& Mk (spn s n) = Mk (spn s n)) ↔ ∀ k, k < n → F (s + k) = true := by
  rw [Mk_and]
  constructor
  · intro e k hk
    have h1 := Mk_inj e (k := s + k) (by omega)
    unfold spn at h1
    rw [decide_eq_true (show s ≤ s + k by omega), decide_eq_true (show s + k < s + n by omega)] at h1
    simpa using h1
  · intro hk
    refine Mk_cong (fun i hi => ?_)
    unfold spn
    by_cases h1 : s ≤ i
    · by_cases h2 : i < s + n
      · have h3 := hk (i - s) (by omega)
        rw [show s + (i - s) = i by omega] at h3
        simp [h1, h2, h3]
      · simp [h2]
    · simp [h1]
theorem c_isUnbroken {R r s n : Nat} {jo : Nat → Int32} {J : Nat → Bool} (hR : R ≤ 4) (hr : r < R) (hj : jo r = Mk J) (h1 : 1 ≤ n) (hn : n ≤ 6) (hs : s + n ≤ 9) : fX4_isUnbroken (nI R) jo (nI r) (nI s) (nI n) = some (bI (decide (∀ k, k < n - 1 → J (s + k) = true))) := by
  unfold fX4_isUnbroken
  rw [show nI n - 1 = nI (n - 1) from sub1 h1, c_span (by omega) (by omega), Option.bind_some, c_hasRow1 hR hr, Option.bind_some, if_neg (by decide), if_neg (nI_in (by omega) (by decide)), nI_clamp (by omega), hj]
  by_cases h : ∀ k, k < n - 1 → J (s + k) = true
  · rw [if_pos ((sub_iff J (by omega)).mpr h), decide_eq_true h]
    rfl
  · rw [if_neg (fun e => h ((sub_iff J (by omega)).mp e)), decide_eq_false h]
    rfl
theorem div10 {r s : Nat} (hr : r < 100) (hs : s < 10) : nI (10 * r + s) / (10 : Int32) = nI r := by
  rw [show (10 : Int32) = nI 10 from rfl, pk_div (by omega) (by decide) (by decide)]
  congr 1
  omega
theorem rem10 {r s : Nat} (hr : r < 100) (hs : s < 10) : nI (10 * r + s) - nI (10 * r + s) / (10 : Int32) * (10 : Int32) = nI s := by
  rw [show (10 : Int32) = nI 10 from rfl, pk_rem (by omega) (by decide) (by decide)]
  congr 1
  omega
theorem c_rowOf {r s : Nat} (hr : r < 100) (hs : s < 10) : fX8_rowOf (nI (10 * r + s)) = some (nI r) := by
  unfold fX8_rowOf
  rw [div10 hr hs]
theorem c_firstOf {r s : Nat} (hr : r < 100) (hs : s < 10) : fX8_firstOf (nI (10 * r + s)) = some (nI s) := by
  unfold fX8_firstOf
  rw [rem10 hr hs]
theorem c_qualLoop {vi : Nat → Int32} {f : Nat → Nat} {b n : Nat} (hb : b + n ≤ 36) (hf : ∀ k, k < n → vi (b + k) = nI (f k)) : ∀ fu i, i ≤ n → n + 1 ≤ i + fu → fX4_qualityOf_20 fu vi (nI n) (nI (fb_sm f i)) (nI b) (nI (b + i)) = some (nI (fb_sm f n)) := by
  intro fu
  induction fu with
  | zero => intro i h1 h2; omega
  | succ fu ih =>
    intro i h1 h2
    rw [fX4_qualityOf_20, nI_add]
    by_cases h : i = n
    · subst h
      rw [if_pos (nI_le (Nat.le_refl _) (by omega))]
    · rw [if_neg (nI_ge (by omega) (by omega)), if_neg (nI_pos (by omega)), if_neg (show ¬ (36 : Int32) ≤ nI (b + i) from nI_ge (b := 36) (by omega) (by decide)), if_neg (nI_in (by omega) (by decide)), nI_clamp (by omega), hf i (by omega), nI_add, nI_1, ← fb_sm_succ, Nat.add_assoc]
      exact ih (i + 1) (by omega) (by omega)
theorem c_qualityOf {vi : Nat → Int32} {f : Nat → Nat} {r s n : Nat} (hr : r < 4) (hs : s + n ≤ 9) (h1 : 1 ≤ n) (hf : ∀ k, k < n → vi (9 * r + s + k) = nI (f k)) : fX4_qualityOf vi (nI (10 * r + s)) (nI n) = some (nI (fb_sm f n)) := by
  unfold fX4_qualityOf
  rw [c_rowOf (by omega) (by omega), Option.bind_some, c_firstOf (by omega) (by omega), Option.bind_some, show nI r * (9 : Int32) = nI (9 * r) by rw [show (9 : Int32) = nI 9 from rfl, pk_mul, Nat.mul_comm], nI_add]
  exact c_qualLoop (b := 9 * r + s) (by omega) hf FU 0 (by omega) (by have := FU_ge (k := 10) (by decide); omega)
theorem m_viewsLoop {vi : Nat → Int32} {f : Nat → Nat} {r s n : Nat} (hr : r < 4) (hs : s + n ≤ 9) (hf : ∀ k, k < n → vi (9 * r + s + k) = nI (f k)) : ∀ fu i, i ≤ n → n + 1 ≤ i + fu → fX9_viewsOf_6 fu vi (nI r) (nI s) (nI n) (nI (fb_sm f i)) (nI (s + i)) = some (nI (fb_sm f n)) := by
  intro fu
  induction fu with
  | zero => intro i h1 h2; omega
  | succ fu ih =>
    intro i h1 h2
    rw [fX9_viewsOf_6, nI_add]
    by_cases h : i = n
    · subst h
      rw [if_pos (nI_le (Nat.le_refl _) (by omega))]
    · rw [if_neg (nI_ge (by omega) (by omega)), show (9 : Int32) * nI r + nI (s + i) = nI (9 * r + s + i) by rw [show (9 : Int32) = nI 9 from rfl, pk_mul, nI_add, Nat.add_assoc], if_neg (nI_in (by omega) (by decide)), nI_clamp (by omega), hf i (by omega), nI_add, nI_1, ← fb_sm_succ, Nat.add_assoc]
      exact ih (i + 1) (by omega) (by omega)
theorem m_viewsOf {vi : Nat → Int32} {f : Nat → Nat} {r s n : Nat} (hr : r < 4) (hs : s + n ≤ 9) (hf : ∀ k, k < n → vi (9 * r + s + k) = nI (f k)) : fX9_viewsOf vi (nI r) (nI s) (nI n) = some (nI (fb_sm f n)) := by
  unfold fX9_viewsOf
  exact m_viewsLoop hr hs hf FU 0 (by omega) (by have := FU_ge (k := 10) (by decide); omega)
def okR (N : Nat) (F J : Nat → Bool) (n : Nat) (ml : Int) (s : Nat) : Bool := decide (s + n ≤ N) && (decide (∀ k, k < n → F (s + k) = true) && (decide (∀ k, k < n - 1 → J (s + k) = true) && decide ((fb_ct (loB (fun i => F i && !spn s n i) J) 9 : Int) ≤ ml)))
theorem rowS_stop {ok : Nat → Bool} {qu : Nat → Nat} {r p : Nat} {A : Acc} {s : Nat} (m : Nat) (h : ∀ k, s ≤ k → ok k = false) : rowS ok qu r p A (s + m) = rowS ok qu r p A s := by
  induction m with
  | zero => rfl
  | succ m ih =>
    rw [← Nat.add_assoc, rowS, h (s + m) (by omega), ih]
    rfl
def repC (A : Acc) : Int32 × Int32 × Int32 × Int32 := (nI A.1, plI A, nI A.2.2.1, nI A.2.2.2)
theorem c_lookLoop {R r N n p : Nat} {se jo vi pr fr : Nat → Int32} {F J : Nat → Bool} {vw : Nat → Nat} {ml : Int} {x7 : Int32} {A : Acc} (hR : R ≤ 4) (hr : r < R) (hN : se r = nI N) (hN9 : N ≤ 9) (hj : jo r = Mk J) (hF : ∀ k, N ≤ k → F k = false) (h1 : 1 ≤ n) (hn : n ≤ 6) (hv : ∀ k, k < N → vi (9 * r + k) = nI (vw k)) (hvw : ∀ k, vw k ≤ 9) (hp : pr r = nI p) (hp9 : p < 100) (hml : x7.toInt = ml) (hA : accOk A 900) :
    ∀ fu s, s ≤ N → N + 1 ≤ s + fu → fX1_lookInRow_25 fu (nI (rowS (okR N F J n ml) (fun s => fb_sm (fun k => vw (s + k)) n) r p A s).1) (plI (rowS (okR N F J n ml) (fun s => fb_sm (fun k => vw (s + k)) n) r p A s)) (nI (rowS (okR N F J n ml) (fun s => fb_sm (fun k => vw (s + k)) n) r p A s).2.2.1) (nI (rowS (okR N F J n ml) (fun s => fb_sm (fun k => vw (s + k)) n) r p A s).2.2.2) (nI R) se jo vi pr fr (nI r) (nI n) (Mk F) x7 (nI s) = some (repC (rowS (okR N F J n ml) (fun s => fb_sm (fun k => vw (s + k)) n) r p A N)) := by
  have hF9 : ∀ k, 9 ≤ k → F k = false := fun k hk => hF k (by omega)
  have hq : ∀ s, fb_sm (fun k => vw (s + k)) n < 100 := fun s => by
    have := fb_sm_le (f := fun k => vw (s + k)) (g := fun _ => 9) (n := n) (fun k _ => hvw (s + k))
    rw [fb_sm_const] at this
    omega
  intro fu
  induction fu with
  | zero => intro s h1 h2; omega
  | succ fu ih =>
    intro s hs hfu
    have hok : accOk (rowS (okR N F J n ml) (fun s => fb_sm (fun k => vw (s + k)) n) r p A s) (900 + s) := rowS_ok hA (by omega) (by omega) hq hp9
    have hnext := ih (s + 1)
    rw [fX1_lookInRow_25, c_seatsIn hR hr, Option.bind_some, hN, nI_add]
    by_cases c0 : s + n ≤ N
    · rw [if_neg (nI_nlt c0 (by omega)), c_span hn (by omega), Option.bind_some]
      rw [rowS] at hnext
      by_cases c1 : ∀ k, k < n → F (s + k) = true
      · rw [if_pos ((sub_iff F (by omega)).mpr c1), c_isUnbroken hR hr hj h1 hn (by omega), Option.bind_some]
        by_cases c2 : ∀ k, k < n - 1 → J (s + k) = true
        · rw [decide_eq_true c2, if_neg (by decide), Mk_not, c_loneOf hR hr hj (fun k hk => by rw [hF9 k hk]; rfl), Option.bind_some, bc_Mk, Option.bind_some]
          have hct := fb_ct_le (loB (fun i => F i && !spn s n i) J) 9
          by_cases c3 : (fb_ct (loB (fun i => F i && !spn s n i) J) 9 : Int) ≤ ml
          · have eok : okR N F J n ml s = true := by
              unfold okR
              rw [decide_eq_true c0, decide_eq_true c1, decide_eq_true c2, decide_eq_true c3]
              rfl
            rw [eok, if_pos rfl] at hnext
            rw [if_neg (by rw [fa_lt, nI_toInt (by omega), hml]; omega)]
            unfold fX8_placeAt
            rw [Option.bind_some, show (10 : Int32) * nI r + nI s = nI (10 * r + s) by rw [show (10 : Int32) = nI 10 from rfl, pk_mul, nI_add], c_qualityOf (f := fun k => vw (s + k)) (by omega) (by omega) h1 (fun k hk => by rw [Nat.add_assoc]; exact hv (s + k) (by omega)), Option.bind_some, c_priceOf (by omega), Option.bind_some, hp, c_consider hok (by omega) (by omega) (hq s) hp9, Option.bind_some, nI_1]
            exact hnext (by omega) (by omega)
          · have eok : okR N F J n ml s = false := by
              unfold okR
              rw [decide_eq_false c3]
              simp
            rw [eok, if_neg (by decide)] at hnext
            rw [if_pos (by rw [fa_lt, nI_toInt (by omega), hml]; omega), nI_1]
            exact hnext (by omega) (by omega)
        · have eok : okR N F J n ml s = false := by
            unfold okR
            rw [decide_eq_false c2]
            simp
          rw [eok, if_neg (by decide)] at hnext
          rw [decide_eq_false c2, if_pos (by decide), nI_1]
          exact hnext (by omega) (by omega)
      · have eok : okR N F J n ml s = false := by
          unfold okR
          rw [decide_eq_false c1]
          simp
        rw [eok, if_neg (by decide)] at hnext
        rw [if_neg (fun e => c1 ((sub_iff F (by omega)).mp e)), nI_1]
        exact hnext (by omega) (by omega)
    · rw [if_pos (nI_lt (by omega) (by omega))]
      have hst := rowS_stop (ok := okR N F J n ml) (qu := fun s => fb_sm (fun k => vw (s + k)) n) (r := r) (p := p) (A := A) (s := s) (N - s) (fun k hk => by
        unfold okR
        rw [decide_eq_false (by omega)]
        rfl)
      rw [show s + (N - s) = N by omega] at hst
      rw [hst]
      rfl
theorem c_lookInRow {R r N n p : Nat} {se jo vi pr fr : Nat → Int32} {F J : Nat → Bool} {vw : Nat → Nat} {d : Int} {x5 : Int32} {A : Acc} (hR : R ≤ 4) (hr : r < R) (hN : se r = nI N) (hN9 : N ≤ 9) (hj : jo r = Mk J) (hfr : fr r = Mk F) (hF : ∀ k, N ≤ k → F k = false) (h1 : 1 ≤ n) (hn : n ≤ 6) (hv : ∀ k, k < N → vi (9 * r + k) = nI (vw k)) (hvw : ∀ k, vw k ≤ 9) (hp : pr r = nI p) (hp9 : p < 100) (hd : x5.toInt = d) (hd1 : -1000 ≤ d) (hd2 : d ≤ 1000) (hA : accOk A 900) :
    fX1_lookInRow (nI A.1) (plI A) (nI A.2.2.1) (nI A.2.2.2) (nI R) se jo vi pr fr (nI r) (nI n) x5 = some (repC (rowS (okR N F J n (fb_ct (loB F J) 9 + d)) (fun s => fb_sm (fun k => vw (s + k)) n) r p A N)) := by
  have hct := fb_ct_le (loB F J) 9
  unfold fX1_lookInRow
  rw [c_freeIn (by omega), Option.bind_some, hfr, c_loneOf hR hr hj (fun k hk => hF k (by omega)), Option.bind_some, bc_Mk, Option.bind_some]
  refine c_lookLoop (vw := vw) (p := p) hR hr hN hN9 hj hF h1 hn hv hvw hp hp9 ?_ hA FU 0 (by omega) (by have := FU_ge (k := 10) (by decide); omega)
  rw [fb_addI, nI_toInt (by omega), hd]
  · rw [nI_toInt (by omega), hd]; omega
  · rw [nI_toInt (by omega), hd]; omega
theorem allS_ok {op : Nat → Bool} {ok : Nat → Nat → Bool} {qu : Nat → Nat → Nat} {N pr : Nat → Nat} {r : Nat} (hr : r ≤ 4) (hN : ∀ k, k < r → N k ≤ 9) (hq : ∀ j k, qu j k < 100) (hp : ∀ k, k < r → pr k < 100) : accOk (allS op ok qu N pr r) (9 * r) := by
  induction r with
  | zero => exact (show accOk acc0 0 from ⟨by decide, by decide, by decide, by decide⟩)
  | succ r ih =>
    have h1 := ih (by omega) (fun k hk => hN k (by omega)) (fun k hk => hp k (by omega))
    rw [allS]
    split
    · exact (rowS_ok h1 (by omega) (hN r (by omega)) (hq r) (hp r (by omega))).up (by have := hN r (by omega); omega)
    · exact h1.up (by omega)
/-- a hall and its free seats as the class holds them -/
def HallC (R : Nat) (N : Nat → Nat) (J F : Nat → Nat → Bool) (vw : Nat → Nat → Nat) (p : Nat → Nat) (se jo vi pr fr : Nat → Int32) : Prop :=
  R ≤ 4 ∧ (∀ j k, vw j k ≤ 9) ∧ ∀ r, r < R → (1 ≤ N r ∧ N r ≤ 9) ∧ se r = nI (N r) ∧ jo r = Mk (J r) ∧ fr r = Mk (F r) ∧ (∀ k, N r ≤ k → F r k = false) ∧ (∀ k, k < N r → vi (9 * r + k) = nI (vw r k)) ∧ pr r = nI (p r) ∧ p r < 100
def opS (o lim : Nat) (p : Nat → Nat) (r : Nat) : Bool := o.testBit r && decide (p r ≤ lim)
def quS (vw : Nat → Nat → Nat) (n r s : Nat) : Nat := fb_sm (fun k => vw r (s + k)) n
theorem quS_lt {vw : Nat → Nat → Nat} (h : ∀ j k, vw j k ≤ 9) {n : Nat} (hn : n ≤ 6) (r s : Nat) : quS vw n r s < 100 := by
  have := fb_sm_le (f := fun k => vw r (s + k)) (g := fun _ => 9) (n := n) (fun k _ => h r (s + k))
  rw [fb_sm_const] at this
  unfold quS
  omega
def okS (N : Nat → Nat) (J F : Nat → Nat → Bool) (n : Nat) (d : Int) (r : Nat) : Nat → Bool := okR (N r) (F r) (J r) n (fb_ct (loB (F r) (J r)) 9 + d)
/-- the best place that both sides find -/
def bestS (R : Nat) (N : Nat → Nat) (J F : Nat → Nat → Bool) (vw : Nat → Nat → Nat) (p : Nat → Nat) (n lim o : Nat) (d : Int) : Acc := allS (opS o lim p) (okS N J F n d) (quS vw n) N p R
theorem c_lookAll {R : Nat} {N : Nat → Nat} {J F : Nat → Nat → Bool} {vw : Nat → Nat → Nat} {p : Nat → Nat} {se jo vi pr fr : Nat → Int32} (H : HallC R N J F vw p se jo vi pr fr) {n lim o : Nat} {d : Int} {x5 : Int32} (h1 : 1 ≤ n) (hn : n ≤ 6) (hl : lim < 100) (ho : o < 16) (hd : x5.toInt = d) (hd1 : -1000 ≤ d) (hd2 : d ≤ 1000) :
    ∀ fu r, r ≤ R → R + 1 ≤ r + fu → fX1_look_24 fu (nI (allS (opS o lim p) (okS N J F n d) (quS vw n) N p r).1) (plI (allS (opS o lim p) (okS N J F n d) (quS vw n) N p r)) (nI (allS (opS o lim p) (okS N J F n d) (quS vw n) N p r).2.2.1) (nI (allS (opS o lim p) (okS N J F n d) (quS vw n) N p r).2.2.2) (nI R) se jo vi pr fr (nI n) (nI lim) x5 (nI o) (nI r) = some (plI (bestS R N J F vw p n lim o d), repC (bestS R N J F vw p n lim o d)) := by
  obtain ⟨hR, hvw, hrow⟩ := H
  intro fu
  induction fu with
  | zero => intro r h1 h2; omega
  | succ fu ih =>
    intro r hr hfu
    rw [fX1_look_24]
    unfold fX4_rows
    rw [Option.bind_some]
    by_cases c0 : r = R
    · subst c0
      rw [if_pos (nI_le (Nat.le_refl _) (by omega))]
      rfl
    · have hlt : r < R := by omega
      obtain ⟨⟨hN1, hN9⟩, hse, hjo, hfr, hF, hvi, hpr, hp⟩ := hrow r hlt
      have hok : accOk (allS (opS o lim p) (okS N J F n d) (quS vw n) N p r) (9 * r) := allS_ok (by omega) (fun k hk => (hrow k (by omega)).1.2) (quS_lt hvw hn) (fun k hk => (hrow k (by omega)).2.2.2.2.2.2.2)
      have hnext := ih (r + 1) (by omega) (by omega)
      rw [allS] at hnext
      rw [if_neg (nI_ge hlt (by omega)), sh1 r (by omega)]
      cases c1 : o.testBit r
      · have e : opS o lim p r = false := by unfold opS; rw [c1]; rfl
        rw [e, if_neg (by decide)] at hnext
        rw [if_pos ((fa_bit (by omega)).mpr c1), nI_1]
        exact hnext
      · rw [if_neg (fun e => by rw [(fa_bit (by omega)).mp e] at c1; cases c1), c_priceOf (by omega), Option.bind_some, hpr]
        by_cases c2 : p r ≤ lim
        · have e : opS o lim p r = true := by unfold opS; rw [c1, decide_eq_true c2]; rfl
          rw [e, if_pos rfl] at hnext
          rw [if_neg (nI_nlt c2 (by omega)), c_lookInRow (vw := vw r) (p := p r) hR hlt hse hN9 hjo hfr hF h1 hn hvi (hvw r) hpr hp hd hd1 hd2 (hok.up (by omega)), Option.bind_some, nI_1]
          exact hnext
        · have e : opS o lim p r = false := by unfold opS; rw [decide_eq_false c2]; simp
          rw [e, if_neg (by decide)] at hnext
          rw [if_pos (nI_lt (by omega) (by omega)), nI_1]
          exact hnext
theorem c_look {R : Nat} {N : Nat → Nat} {J F : Nat → Nat → Bool} {vw : Nat → Nat → Nat} {p : Nat → Nat} {se jo vi pr fr : Nat → Int32} (H : HallC R N J F vw p se jo vi pr fr) {n lim o : Nat} {d : Int} {x5 : Int32} (h1 : 1 ≤ n) (hn : n ≤ 6) (hl : lim < 100) (ho : o < 16) (hd : x5.toInt = d) (hd1 : -1000 ≤ d) (hd2 : d ≤ 1000) (a b c e : Int32) :
    fX1_look a b c e (nI R) se jo vi pr fr (nI n) (nI lim) x5 (nI o) = some (plI (bestS R N J F vw p n lim o d), repC (bestS R N J F vw p n lim o d)) := by
  unfold fX1_look
  exact c_lookAll H h1 hn hl ho hd hd1 hd2 FU 0 (by omega) (by have := FU_ge (k := 10) (by decide); have := H.1; omega)
