/-! observations; the text; the seed -/
def SightR (o : Nat) (sr ss : Nat → Nat) (sb : Nat → Bool) (rw_ se_ oc sn sw : Nat → Int32) : Prop := o ≤ 6 ∧ ∀ i, i < o → sr i < 4 ∧ ss i < 9 ∧ rw_ i = nI (sr i) ∧ se_ i = nI (ss i) ∧ oc i = bI (sb i) ∧ sn i = nI (9 * sr i + ss i) ∧ sw i = bI (sb i)
def SightX (o : Nat) (rw_ se_ oc sn sw : Nat → Int32) : Prop := ∃ sr ss sb, SightR o sr ss sb rw_ se_ oc sn sw
theorem c_rg01 {α : Type} {x : Int32} (a b : α) : (if x < 0 then a else if x ≤ 1 then b else a) = (if bI (inR x 0 1) = 0 then a else b) := c_rgP (lo := 0) (hi := 1) a b
theorem m_in01R (x : Int32) : fX9_in x.toInt64 (0 : Int64) (1 : Int64) = some (bI (inR x 0 1)) := m_inR x 0 1
theorem O_see {R : Nat} {N : Nat → Nat} {al : Nat → Nat → Bool} {vw : Nat → Nat → Nat} {se jo vi mn am vm : Nat → Int32} (H : HallP R N al vw se jo vi) (HM : HallM R N al vw mn am vm) {o : Nat} {rw_ se_ oc sn sw : Nat → Int32} (S : SightX o rw_ se_ oc sn sw) (th x1 x2 x3 : Int32) :
    ∃ (ans : Int32) (o' : Nat) (rw' se' oc' sn' sw' : Nat → Int32), fX8_see (nI R) se (nI o) rw_ se_ oc x1 x2 x3 = some (ans, nI o', rw', se', oc') ∧ fX9_see th (nI R) (nI o) mn sn sw x1 x2 x3 = some (ans, 0, nI o', sn', sw') ∧ SightX o' rw' se' oc' sn' sw' := by
  obtain ⟨hR, hN, hse⟩ := HallP_N H
  obtain ⟨-, -, hrM⟩ := id HM
  unfold fX8_see fX9_see
  rw [c_hasSeatS hR hse, Option.bind_some, m_noSeatS hR hN (fun r hr => (hrM r hr).2.1), Option.bind_some, m_in01R, Option.bind_some, c_rg01]
  cases hr : inS R N x1 x2 with
  | false =>
    rw [ib_f, Bool.not_false, ib_t]
    exact ⟨_, o, _, _, _, sn, sw, rfl, rfl, S⟩
  | true =>
    obtain ⟨r, s, hrR, hsN, rfl, rfl⟩ := inS_at hR hN hr
    have hN9 := hN r hrR
    rw [ib_t, Bool.not_true, ib_f]
    cases hx : inR x3 0 1 with
    | false =>
      rw [ib_f, ib_f]
      exact ⟨_, o, _, _, _, sn, sw, rfl, rfl, S⟩
    | true =>
      obtain ⟨k, -, k1, rfl⟩ := inR_at (by decide) (by decide) hx
      obtain ⟨b, hb⟩ : ∃ b : Bool, nI k = bI b := by
        have : k = 0 ∨ k = 1 := by omega
        rcases this with rfl | rfl
        · exact ⟨false, rfl⟩
        · exact ⟨true, rfl⟩
      have e9 : (9 : Int32) * nI r + nI s = nI (9 * r + s) := by rw [show (9 : Int32) = nI 9 from rfl, pk_mul, nI_add]
      rw [hb, ib_t, ib_t, e9]
      have e42 : (if bI b = (1 : Int32) then fX8_see_42 (nI R) se (nI o) rw_ se_ oc (nI r) (nI s) 1 else fX8_see_42 (nI R) se (nI o) rw_ se_ oc (nI r) (nI s) 0) = fX8_see_42 (nI R) se (nI o) rw_ se_ oc (nI r) (nI s) (bI b) := by
        cases b <;> rfl
      rw [e42]
      obtain ⟨sr, ss, sb, ho, hi⟩ := id S
      unfold fX8_see_42 fX5_add
      rw [if_neg (nI_pos (by omega))]
      by_cases h6 : o = 6
      · subst h6
        rw [if_neg (show ¬ nI 6 < (6 : Int32) by decide), Option.bind_some, i0_t, if_pos (show nI 6 = (6 : Int32) from rfl)]
        exact ⟨_, 6, _, _, _, sn, sw, rfl, rfl, S⟩
      · have ebb : vp_nar .boolean (bI b) = bI b := by cases b <;> rfl
        rw [if_pos (show nI o < (6 : Int32) from nI_lt' (b := 6) (by omega) (by decide)), if_neg (nI_in (by omega) (by decide)), if_neg (nI_in (by omega) (by decide)), if_neg (nI_in (by omega) (by decide)), Option.bind_some, i1_t, if_neg (show ¬ nI o = (6 : Int32) from fun e => h6 (nI_inj (y := 6) (by omega) (by decide) e)), if_neg (nI_in (by omega) (by decide)), if_neg (nI_in (by omega) (by decide)), nI_clamp (by omega), nI_1, ebb]
        unfold fX5_number
        rw [Option.bind_some]
        refine ⟨_, o + 1, _, _, _, _, _, rfl, rfl, fun i => if i = o then r else sr i, fun i => if i = o then s else ss i, fun i => if i = o then b else sb i, by omega, fun i hi2 => ?_⟩
        dsimp only
        by_cases e : i = o
        · subst e
          rw [if_pos rfl, if_pos rfl, if_pos rfl]
          exact ⟨by omega, by omega, upd_at _ _ _, upd_at _ _ _, upd_at _ _ _, upd_at _ _ _, upd_at _ _ _⟩
        · rw [if_neg e, if_neg e, if_neg e]
          obtain ⟨z1, z2, z3, z4, z5, z6, z7⟩ := hi i (by omega)
          exact ⟨z1, z2, (upd_ne e).trans z3, (upd_ne e).trans z4, (upd_ne e).trans z5, (upd_ne e).trans z6, (upd_ne e).trans z7⟩
theorem O_unsee {o : Nat} {rw_ se_ oc sn sw : Nat → Int32} (S : SightX o rw_ se_ oc sn sw) (th : Int32) : fX8_unsee (nI o) = some (nI o, nI 0) ∧ fX9_unsee th (nI o) = some (nI o, 0, nI 0) ∧ SightX 0 rw_ se_ oc sn sw := by
  obtain ⟨sr, ss, sb, ho, hi⟩ := S
  exact ⟨rfl, rfl, sr, ss, sb, by omega, fun i h => by omega⟩
def soK (R : Nat) (N : Nat → Nat) (w : Nat → Int32) (p r s : Nat) (b : Bool) : Bool := !(inS R N (nI r) (nI s)) || (decide (¬ w (13 + 9 * r + s) = 0 ∧ ¬ w (13 + 9 * r + s) = nI p) == b)
def soD (R : Nat) (N : Nat → Nat) (w : Nat → Int32) (o : Nat) (sr ss : Nat → Nat) (sb : Nat → Bool) (p i : Nat) : Bool := decide (∀ k, k < o → i ≤ k → soK R N w p (sr k) (ss k) (sb k) = true)
theorem soD_s {R : Nat} {N : Nat → Nat} {w : Nat → Int32} {o : Nat} {sr ss : Nat → Nat} {sb : Nat → Bool} {p i : Nat} (h : i < o) : soD R N w o sr ss sb p i = (soK R N w p (sr i) (ss i) (sb i) && soD R N w o sr ss sb p (i + 1)) := by
  unfold soD
  cases hk : soK R N w p (sr i) (ss i) (sb i) with
  | false =>
    rw [Bool.false_and]
    exact decide_eq_false (fun g => by rw [g i h (by omega)] at hk; cases hk)
  | true =>
    rw [Bool.true_and]
    refine decide_eq_decide.mpr ⟨fun g k h1 h2 => g k h1 (by omega), fun g k h1 h2 => ?_⟩
    by_cases e : k = i
    · subst e; exact hk
    · exact g k h1 (by omega)
theorem soD_o {R : Nat} {N : Nat → Nat} {w : Nat → Int32} {o : Nat} {sr ss : Nat → Nat} {sb : Nat → Bool} {p i : Nat} (h : o ≤ i) : soD R N w o sr ss sb p i = true := decide_eq_true (fun k h1 h2 => by omega)
theorem inS_iff {R : Nat} {N : Nat → Nat} {r s : Nat} (hR : R ≤ 4) (hN : ∀ r, r < R → N r ≤ 9) (hr : r < 4) (hs : s < 9) (h : inS R N (nI r) (nI s) = true) : r < R ∧ s < N r := by
  obtain ⟨r', s', h1, h2, h3, h4⟩ := inS_at hR hN h
  have := hN r' h1
  have e1 : r = r' := nI_inj (by omega) (by omega) h3
  have e2 : s = s' := nI_inj (by omega) (by omega) h4
  subst e1
  subst e2
  exact ⟨h1, h2⟩
theorem c_absLoop {R : Nat} {N : Nat → Nat} {al : Nat → Nat → Bool} {vw : Nat → Nat → Nat} {se jo vi : Nat → Int32} (H : HallP R N al vw se jo vi) {a q p : Nat} {pr fr sz lm pc pd qu : Nat → Int32} {ask wai fee tak : Int32} {w : Nat → Int32} (B : BKg R N a 0 q q 0 pr fr sz lm pc pd qu ask wai fee tak w) {o : Nat} {sr ss : Nat → Nat} {sb : Nat → Bool} {rw_ se_ oc sn sw : Nat → Int32} (S : SightR o sr ss sb rw_ se_ oc sn sw) (hp : p ≤ 30) : ∀ fu i, i ≤ o → o + 1 ≤ i + fu → fX5_allowAbsence_3 fu (nI o) rw_ se_ oc (nI R) se (nI a) sz pc (nI p) (nI i) = some (bI (soD R N w o sr ss sb p i)) := by
  obtain ⟨hR, hN, hse⟩ := HallP_N H
  obtain ⟨ho, hS⟩ := S
  intro fu
  induction fu with
  | zero => intro i h1 h2; omega
  | succ fu ih =>
    intro i h1 h2
    rw [fX5_allowAbsence_3]
    by_cases h : i = o
    · subst h
      rw [if_pos (nI_le (Nat.le_refl _) (by omega)), soD_o (Nat.le_refl _)]
      rfl
    · obtain ⟨z1, z2, z3, z4, z5, z6, z7⟩ := hS i (by omega)
      have ih2 := ih (i + 1) (by omega) (by omega)
      rw [if_neg (nI_ge (by omega) (by omega)), if_neg (show ¬ (6 : Int32) ≤ nI i from nI_ge (b := 6) (by omega) (by decide)), if_neg (nI_in (by omega) (by decide)), if_neg (nI_in (by omega) (by decide)), nI_clamp (by omega), z3, z4, c_hasSeatS hR hse, Option.bind_some, nI_1, soD_s (by omega)]
      cases hin : inS R N (nI (sr i)) (nI (ss i)) with
      | false =>
        rw [ib_f, ih2]
        unfold soK
        rw [hin]
        rfl
      | true =>
        obtain ⟨hr, hs⟩ := inS_iff hR hN z1 z2 hin
        have g6 : ¬ (nI i < 0 ∨ 6 ≤ i) := (grd2 (by omega) (by decide)).mp
        have e76 : ∀ b : Bool, fX5_allowAbsence_76 (fX5_allowAbsence_3 fu) (nI o) rw_ se_ oc (nI R) se (nI a) sz pc (nI p) (nI i) (bI b) = some (bI ((b == sb i) && soD R N w o sr ss sb p (i + 1))) := fun b => by
          unfold fX5_allowAbsence_76
          rw [if_neg (nI_in (by omega) (by decide)), nI_clamp (by omega), z5, nI_1, ih2]
          cases b <;> cases sb i <;> rfl
        rw [ib_t, if_neg g6, if_neg g6, c_takerOf hR hN B hr hs, Option.bind_some]
        unfold soK
        rw [hin, Bool.not_true, Bool.false_or]
        by_cases c0 : w (13 + 9 * sr i + ss i) = 0
        · rw [if_pos c0, decide_eq_false (fun h => h.1 c0)]
          exact e76 false
        · rw [if_neg c0]
          by_cases c1 : w (13 + 9 * sr i + ss i) = nI p
          · rw [if_pos c1, decide_eq_false (fun h => h.2 c1)]
            exact e76 false
          · rw [if_neg c1, decide_eq_true ⟨c0, c1⟩]
            exact e76 true
theorem div9 {r s : Nat} (hr : r < 4) (hs : s < 9) : nI (9 * r + s) / (9 : Int32) = nI r := by
  have h : ∀ r, r < 4 → ∀ s, s < 9 → nI (9 * r + s) / (9 : Int32) = nI r := by decide
  exact h r hr s hs
theorem rem9 {r s : Nat} (hr : r < 4) (hs : s < 9) : nI (9 * r + s) - nI (9 * r + s) / (9 : Int32) * (9 : Int32) = nI s := by
  have h : ∀ r, r < 4 → ∀ s, s < 9 → nI (9 * r + s) - nI (9 * r + s) / (9 : Int32) * (9 : Int32) = nI s := by decide
  exact h r hr s hs
theorem m_isSo {R : Nat} {N : Nat → Nat} {al : Nat → Nat → Bool} {vw : Nat → Nat → Nat} {mn am vm : Nat → Int32} (HM : HallM R N al vw mn am vm) {p : Nat} {w : Nat → Int32} {o : Nat} {sr ss : Nat → Nat} {sb : Nat → Bool} {rw_ se_ oc sn sw : Nat → Int32} (S : SightR o sr ss sb rw_ se_ oc sn sw) {i : Nat} (hi : i < o) : fX9_isSo (nI R) mn w sn sw (nI p) (nI i) = some (bI (soK R N w p (sr i) (ss i) (sb i))) := by
  obtain ⟨hR, -, hrM⟩ := id HM
  have hN : ∀ r, r < R → N r ≤ 9 := fun r hr => (hrM r hr).1.2
  obtain ⟨ho, hS⟩ := S
  obtain ⟨z1, z2, z3, z4, z5, z6, z7⟩ := hS i hi
  unfold fX9_isSo
  rw [if_neg (nI_in (by omega) (by decide)), if_neg (nI_in (by omega) (by decide)), nI_clamp (by omega), z6, rem9 z1 z2, div9 z1 z2, m_noSeatS hR hN (fun r hr => (hrM r hr).2.1), Option.bind_some]
  unfold soK
  cases hin : inS R N (nI (sr i)) (nI (ss i)) with
  | false => rfl
  | true =>
    have g6 : ¬ (nI i < 0 ∨ 6 ≤ i) := (grd2 (by omega) (by decide)).mp
    have e56 : ∀ b : Bool, fX9_isSo_56 (nI R) mn w sn sw (nI i) (bI b) = some (bI (b == sb i)) := fun b => by
      unfold fX9_isSo_56 fX9_isSo_71
      rw [if_neg (nI_in (by omega) (by decide)), nI_clamp (by omega), z7]
      cases b <;> cases sb i <;> rfl
    have e13 : (13 : Int32) + nI (9 * sr i + ss i) = nI (13 + 9 * sr i + ss i) := by
      rw [show (13 : Int32) = nI 13 from rfl, nI_add, Nat.add_assoc]
    rw [Bool.not_true, ib_f, if_neg g6, e13, if_neg (nI_in (by omega) (by decide)), nI_clamp (by omega), Bool.false_or]
    by_cases c0 : w (13 + 9 * sr i + ss i) = 0
    · rw [if_pos c0, decide_eq_false (fun h => h.1 c0)]
      exact e56 false
    · rw [if_neg c0]
      by_cases c1 : w (13 + 9 * sr i + ss i) = nI p
      · rw [if_pos c1, decide_eq_false (fun h => h.2 c1)]
        exact e56 false
      · rw [if_neg c1, decide_eq_true ⟨c0, c1⟩]
        exact e56 true
theorem m_sits {a p : Nat} {w : Nat → Int32} (ha : a ≤ 30) (hw6 : w 6 = nI a) (p1 : 1 ≤ p) (pa : p ≤ a) : fX9_sits w (nI p) = some (bI (decide (w (45 + 6 * p) = nI 1))) := by
  unfold fX9_sits
  rw [c6, hw6, show (1 : Int64) = (1 : Int32).toInt64 from rfl, m_in, Option.bind_some, decide_eq_true ⟨nI_le' (a := 1) p1 (by omega), nI_le' pa (by omega)⟩, ib_t, m_at p1, Option.bind_some, pl2, if_neg (nI_in (by omega) (by decide)), nI_clamp (by omega), show 43 + 6 * p + 2 = 45 + 6 * p by omega]
  by_cases h : w (45 + 6 * p) = nI 1
  · rw [if_pos (show w (45 + 6 * p) = (1 : Int32) from h), decide_eq_true h]
    rfl
  · rw [if_neg (show ¬ w (45 + 6 * p) = (1 : Int32) from h), decide_eq_false h]
    rfl
theorem m_whichLoop {R : Nat} {N : Nat → Nat} {al : Nat → Nat → Bool} {vw : Nat → Nat → Nat} {mn am vm : Nat → Int32} (HM : HallM R N al vw mn am vm) {p : Nat} {w : Nat → Int32} {o : Nat} {sr ss : Nat → Nat} {sb : Nat → Bool} {rw_ se_ oc sn sw : Nat → Int32} (S : SightR o sr ss sb rw_ se_ oc sn sw) (k9 : Int32 → Int32 → Int32 → (Nat → Int32) → (Nat → Int32) → (Nat → Int32) → (Nat → Int32) → Int32 → Int32 → Option (Int32 × Int32)) {th x1 : Int32} : ∀ fu i (m : Bool), i ≤ o → o + 1 ≤ i + fu → fX9_which_33 k9 fu th (nI R) (nI o) mn w sn sw x1 (nI p) (bI m) (nI i) = (if bI (m && soD R N w o sr ss sb p i) = 0 then k9 th (nI R) (nI o) mn w sn sw (x1 ||| 0) (nI p + 1) else k9 th (nI R) (nI o) mn w sn sw (x1 ||| ((1 : Int32) <<< (nI p &&& 31))) (nI p + 1)) := by
  obtain ⟨ho, hS⟩ := id S
  intro fu
  induction fu with
  | zero => intro i m h1 h2; omega
  | succ fu ih =>
    intro i m h1 h2
    rw [fX9_which_33]
    by_cases h : i = o
    · subst h
      rw [if_pos (nI_le (Nat.le_refl _) (by omega)), soD_o (Nat.le_refl _), Bool.and_true]
    · rw [if_neg (nI_ge (by omega) (by omega)), nI_1, soD_s (by omega)]
      have ihf := ih (i + 1) false (by omega) (by omega)
      have iht := ih (i + 1) true (by omega) (by omega)
      cases m with
      | false =>
        rw [ib_f, Bool.false_and]
        exact ihf
      | true =>
        rw [ib_t, m_isSo HM S (by omega), Option.bind_some, Bool.true_and]
        cases soK R N w p (sr i) (ss i) (sb i) with
        | false =>
          rw [ib_f, Bool.false_and]
          exact ihf
        | true =>
          rw [ib_t]
          exact iht
theorem O_which {R : Nat} {N : Nat → Nat} {al : Nat → Nat → Bool} {vw : Nat → Nat → Nat} {se jo vi mn am vm : Nat → Int32} (H : HallP R N al vw se jo vi) (HM : HallM R N al vw mn am vm) {pr fr sz lm pc pd qu w : Nat → Int32} {ask wai fee tak : Int32} (B : BK R N pr fr sz lm pc pd qu ask wai fee tak w) {o : Nat} {rw_ se_ oc sn sw : Nat → Int32} (S : SightX o rw_ se_ oc sn sw) (th : Int32) :
    ∃ ans : Int32, fX8_which (nI R) se ask sz pc (nI o) rw_ se_ oc = some ans ∧ fX9_which th (nI R) (nI o) mn w sn sw = some (ans, 0) := by
  obtain ⟨hR, hN, hse⟩ := HallP_N H
  obtain ⟨a, q, B⟩ := B
  obtain ⟨⟨ha, hask, hw6⟩, -⟩ := id B
  subst hask
  obtain ⟨sr, ss, sb, S⟩ := S
  have ho := S.1
  have hL : ∀ fu p acc, 1 ≤ p → p ≤ a + 1 → a + 2 ≤ p + fu → ∃ ans : Int32, fX8_which_4 fu (nI R) se (nI a) sz pc (nI o) rw_ se_ oc acc (nI p) = some ans ∧ fX9_which_9 fu 0 (nI R) (nI o) mn w sn sw acc (nI p) = some (ans, 0) := by
    intro fu
    induction fu with
    | zero => intro p acc h0 h1 h2; omega
    | succ fu ih =>
      intro p acc h0 h1 h2
      rw [fX8_which_4, fX9_which_9, c6, hw6]
      unfold fX0_asked
      rw [Option.bind_some]
      by_cases hpa : p = a + 1
      · subst hpa
        rw [if_pos (nI_lt' (by omega) (by omega)), if_pos (nI_lt' (by omega) (by omega))]
        exact ⟨_, rfl, rfl⟩
      · have hpa2 : p ≤ a := by omega
        have hab := c_absLoop H B S (p := p) (by omega) FU 0 (by omega) (by have := FU_ge (k := 50) (by decide); omega)
        have hwl := m_whichLoop HM S (p := p) (w := w) (fX9_which_9 fu) (th := 0) (x1 := acc) FU 0 (decide (w (45 + 6 * p) = nI 1)) (by omega) (by have := FU_ge (k := 50) (by decide); omega)
        have e0 : acc ||| (0 : Int32) = acc := by
          refine b_ext (fun i hi => ?_)
          rw [b_or, b_0, Bool.or_false]
        rw [if_neg (show ¬ nI a < nI p from nI_nlt (by omega) (by omega)), if_neg (show ¬ nI a < nI p from nI_nlt (by omega) (by omega)), c_isSeated ha h0 hpa2, Option.bind_some, m_sits ha hw6 h0 hpa2, Option.bind_some, decide_eq_decide.mpr (seated_iff hR hN B h0 hpa2 (by omega))]
        have hwl2 : fX9_which_33 (fX9_which_9 fu) FU 0 (nI R) (nI o) mn w sn sw acc (nI p) (bI (decide (w (45 + 6 * p) = nI 1))) 0 = _ := hwl
        rw [hwl2, e0, nI_1]
        unfold fX5_allowAbsence
        have hab2 : fX5_allowAbsence_3 FU (nI o) rw_ se_ oc (nI R) se (nI a) sz pc (nI p) 0 = _ := hab
        rw [hab2, Option.bind_some]
        by_cases hst : w (45 + 6 * p) = nI 1
        · rw [decide_eq_true hst, ib_t, Bool.true_and]
          cases soD R N w o sr ss sb p 0 with
          | false =>
            rw [ib_f, ib_f]
            exact ih (p + 1) acc (by omega) (by omega) (by omega)
          | true =>
            rw [ib_t, ib_t]
            exact ih (p + 1) _ (by omega) (by omega) (by omega)
        · rw [decide_eq_false hst, ib_f, Bool.false_and, ib_f]
          exact ih (p + 1) acc (by omega) (by omega) (by omega)
  exact hL FU 1 0 (by omega) (by omega) (by have := FU_ge (k := 50) (by decide); omega)
/-- the text, letter by letter -/
def TextR (t : Nat) (L T : Nat → Int32) : Prop := t ≤ 80 ∧ ∀ i, i < t → L i = T i ∧ ∃ c, c < 256 ∧ T i = nI c
theorem c_rg255 {α : Type} {x : Int32} (a b : α) : (if x < 0 then a else if x ≤ 255 then b else a) = (if bI (inR x 0 255) = 0 then a else b) := c_rgP (lo := 0) (hi := 255) a b
theorem m_in255 (x : Int32) : fX9_in x.toInt64 (0 : Int64) (255 : Int64) = some (bI (inR x 0 255)) := m_inR x 0 255
theorem O_write {t : Nat} {L T : Nat → Int32} (X : TextR t L T) (th x1 : Int32) : ∃ (ans : Int32) (t' : Nat) (L' T' : Nat → Int32), fX8_write (nI t) L x1 = some (ans, nI t', L') ∧ fX9_write th (nI t) T x1 = some (ans, 0, nI t', T') ∧ TextR t' L' T' := by
  obtain ⟨ht, hi⟩ := id X
  unfold fX8_write fX9_write
  rw [m_in255, Option.bind_some, c_rg255]
  cases h : inR x1 0 255 with
  | false =>
    rw [ib_f, ib_f]
    exact ⟨_, t, L, T, rfl, rfl, X⟩
  | true =>
    obtain ⟨c, -, c255, rfl⟩ := inR_at (by decide) (by decide) h
    rw [ib_t, ib_t]
    unfold fX7_append
    rw [if_neg (nI_pos (by omega))]
    by_cases h80 : t = 80
    · subst h80
      rw [if_neg (show ¬ nI 80 < (80 : Int32) by decide), Option.bind_some, i0_t, if_pos (show nI 80 = (80 : Int32) from rfl)]
      exact ⟨_, 80, L, T, rfl, rfl, X⟩
    · rw [if_pos (show nI t < (80 : Int32) from nI_lt' (b := 80) (by omega) (by decide)), if_neg (nI_in (by omega) (by decide)), Option.bind_some, i1_t, if_neg (show ¬ nI t = (80 : Int32) from fun e => h80 (nI_inj (y := 80) (by omega) (by decide) e)), if_neg (nI_in (by omega) (by decide)), nI_clamp (by omega), nI_1]
      unfold fX7_length
      rw [Option.bind_some]
      refine ⟨_, t + 1, _, _, rfl, rfl, by omega, fun i hi2 => ?_⟩
      by_cases e : i = t
      · subst e
        exact ⟨(upd_at _ _ _).trans (upd_at _ _ _).symm, c, by omega, upd_at _ _ _⟩
      · obtain ⟨z1, d, z2, z3⟩ := hi i (by omega)
        exact ⟨(upd_ne e).trans (z1.trans (upd_ne e).symm), d, z2, (upd_ne e).trans z3⟩
theorem O_wipe {t : Nat} {L T : Nat → Int32} (X : TextR t L T) (th : Int32) : fX8_wipe (nI t) = some (nI t, nI 0) ∧ fX9_wipe th (nI t) = some (nI t, 0, nI 0) ∧ TextR 0 L T := ⟨rfl, rfl, by omega, fun i h => by omega⟩
theorem O_seed (s x th : _) : fX8_seed s x = some (s, x) ∧ fX9_seed th s x = some (s, 0, x) := ⟨rfl, rfl⟩
