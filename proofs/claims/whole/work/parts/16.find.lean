/-! the reference's side of the search -/
def layF (w : Nat → Int32) (r s n : Nat) (v : Int32) : Nat → Int32 := fun j => if 13 + 9 * r + s ≤ j ∧ j < 13 + 9 * r + s + n then v else w j
theorem layF_0 (w : Nat → Int32) (r s : Nat) (v : Int32) : layF w r s 0 v = w := by
  funext j
  unfold layF
  rw [if_neg (by omega)]
theorem layF_s (w : Nat → Int32) (r s n : Nat) (v : Int32) : upd (layF w r s n v) (13 + 9 * r + s + n) v = layF w r s (n + 1) v := by
  funext j
  unfold upd layF
  by_cases h : j = 13 + 9 * r + s + n
  · rw [if_pos h, if_pos (by omega)]
  · rw [if_neg h]
    by_cases h2 : 13 + 9 * r + s ≤ j ∧ j < 13 + 9 * r + s + n
    · rw [if_pos h2, if_pos (by omega)]
    · rw [if_neg h2, if_neg (by omega)]
theorem layF_twice {w : Nat → Int32} {r s n : Nat} {v : Int32} (x : Int32) (h : ∀ k, k < n → w (13 + 9 * r + (s + k)) = v) : layF (layF w r s n x) r s n v = w := by
  funext j
  unfold layF
  by_cases h2 : 13 + 9 * r + s ≤ j ∧ j < 13 + 9 * r + s + n
  · rw [if_pos h2]
    have h3 := h (j - (13 + 9 * r + s)) (by omega)
    rw [show 13 + 9 * r + (s + (j - (13 + 9 * r + s))) = j by omega] at h3
    exact h3.symm
  · rw [if_neg h2, if_neg h2]
theorem m_layLoop {w : Nat → Int32} {r s n : Nat} {v : Int32} (hr : r < 4) (hs : s + n ≤ 9) : ∀ fu i, i ≤ n → n + 1 ≤ i + fu → fX9_lay_3 fu (layF w r s i v) (nI r) (nI s) (nI n) v (nI (s + i)) = some (layF w r s n v) := by
  intro fu
  induction fu with
  | zero => intro i h1 h2; omega
  | succ fu ih =>
    intro i h1 h2
    rw [fX9_lay_3, nI_add]
    by_cases h : i = n
    · subst h
      rw [if_pos (nI_le (Nat.le_refl _) (by omega))]
    · rw [if_neg (nI_ge (by omega) (by omega)), show (13 : Int32) + (9 : Int32) * nI r + nI (s + i) = nI (13 + 9 * r + s + i) by rw [show (9 : Int32) = nI 9 from rfl, pk_mul, show (13 : Int32) = nI 13 from rfl, nI_add, nI_add, ← Nat.add_assoc], if_neg (nI_in (by omega) (by decide)), nI_clamp (by omega), layF_s, nI_1, Nat.add_assoc]
      exact ih (i + 1) (by omega) (by omega)
theorem m_lay {w : Nat → Int32} {r s n : Nat} {v : Int32} (hr : r < 4) (hs : s + n ≤ 9) : fX9_lay w (nI r) (nI s) (nI n) v = some (layF w r s n v) := by
  unfold fX9_lay
  have h := m_layLoop (w := w) (v := v) hr hs FU 0 (by omega) (by have := FU_ge (k := 10) (by decide); omega)
  rw [layF_0] at h
  exact h
/-- a hall as the reference holds it -/
def HallM (R : Nat) (N : Nat → Nat) (a : Nat → Nat → Bool) (vw : Nat → Nat → Nat) (mn al vi : Nat → Int32) : Prop :=
  R ≤ 4 ∧ (∀ j k, vw j k ≤ 9) ∧ ∀ r, r < R → (1 ≤ N r ∧ N r ≤ 9) ∧ mn r = nI (N r) ∧ (∀ k, k < N r → al (9 * r + k) = bI (a r k)) ∧ (∀ k, k < N r → vi (9 * r + k) = nI (vw r k))
def loneW (N : Nat → Nat) (a : Nat → Nat → Bool) (w : Nat → Int32) (r : Nat) : Nat := fb_ct (loM (N r) (a r) (frW w r)) (N r)
theorem loneW_le {N : Nat → Nat} {a : Nat → Nat → Bool} {w : Nat → Int32} {r : Nat} (h : N r ≤ 9) : loneW N a w r ≤ 9 := Nat.le_trans (fb_ct_le _ _) h
theorem lone_bound {N : Nat → Nat} {a : Nat → Nat → Bool} {w : Nat → Int32} {R : Nat} (h : ∀ r, r < R → N r ≤ 9) : fb_sm (loneW N a w) R ≤ R * 9 := by
  have h1 := fb_sm_le (f := loneW N a w) (g := fun _ => 9) (n := R) (fun k hk => loneW_le (h k hk))
  rw [fb_sm_const] at h1
  exact h1
theorem m_allLoneLoop {R : Nat} {N : Nat → Nat} {a : Nat → Nat → Bool} {vw : Nat → Nat → Nat} {mn al vi w : Nat → Int32} (H : HallM R N a vw mn al vi) : ∀ fu r, r ≤ R → R + 1 ≤ r + fu → fX9_allLone_4 fu (nI R) mn al w (nI (fb_sm (loneW N a w) r)) (nI r) = some (nI (fb_sm (loneW N a w) R)) := by
  obtain ⟨hR, hvw, hrow⟩ := H
  intro fu
  induction fu with
  | zero => intro r h1 h2; omega
  | succ fu ih =>
    intro r h1 h2
    rw [fX9_allLone_4]
    by_cases c0 : r = R
    · subst c0
      rw [if_pos (nI_le (Nat.le_refl _) (by omega))]
    · obtain ⟨⟨hN1, hN9⟩, hmn, hal, hvi⟩ := hrow r (by omega)
      rw [if_neg (nI_ge (by omega) (by omega)), m_loneIn (by omega) hmn hN9 hal, Option.bind_some, m_ones hN9, Option.bind_some, nI_add, nI_1]
      exact ih (r + 1) (by omega) (by omega)
theorem m_allLone {R : Nat} {N : Nat → Nat} {a : Nat → Nat → Bool} {vw : Nat → Nat → Nat} {mn al vi w : Nat → Int32} (H : HallM R N a vw mn al vi) : fX9_allLone (nI R) mn al w = some (nI (fb_sm (loneW N a w) R)) := by
  unfold fX9_allLone
  exact m_allLoneLoop H FU 0 (by omega) (by have := FU_ge (k := 10) (by decide); have := H.1; omega)
/-- seats from s on, so many, are free and unbroken -/
def seqM (a : Nat → Bool) (F : Nat → Bool) (s i : Nat) : Bool := decide (∀ k, k < i → F (s + k) = true ∧ (k = 0 ∨ a (s + k - 1) = false))
theorem seqM_s (a F : Nat → Bool) (s i : Nat) : seqM a F s (i + 1) = (seqM a F s i && (F (s + i) && (decide (i = 0) || !a (s + i - 1)))) := by
  unfold seqM
  by_cases h : ∀ k, k < i → F (s + k) = true ∧ (k = 0 ∨ a (s + k - 1) = false)
  · rw [decide_eq_true h, Bool.true_and]
    by_cases h2 : F (s + i) = true ∧ (i = 0 ∨ a (s + i - 1) = false)
    · rw [decide_eq_true (fun k hk => by
        by_cases hk2 : k = i
        · subst hk2; exact h2
        · exact h k (by omega)), h2.1]
      rcases h2.2 with h3 | h3
      · simp [h3]
      · simp [h3]
    · rw [decide_eq_false (fun z => h2 (z i (by omega)))]
      cases hF : F (s + i)
      · rfl
      · have h4 : ¬ (i = 0 ∨ a (s + i - 1) = false) := fun z => h2 ⟨hF, z⟩
        have h5 : ¬ i = 0 := fun z => h4 (Or.inl z)
        have h6 : a (s + i - 1) = true := by
          cases hz : a (s + i - 1)
          · exact absurd (Or.inr hz) h4
          · rfl
        simp [h5, h6]
  · rw [decide_eq_false h, decide_eq_false (fun z => h (fun k hk => z k (by omega)))]
    rfl
def okM (R : Nat) (N : Nat → Nat) (a : Nat → Nat → Bool) (w : Nat → Int32) (n lone r s : Nat) : Bool := decide (s + n ≤ N r) && (seqM (a r) (frW w r) s n && decide (fb_sm (loneW N a (layF w r s n 31)) R ≤ lone))
theorem m_placeLoop {R : Nat} {N : Nat → Nat} {a : Nat → Nat → Bool} {vw : Nat → Nat → Nat} {mn al vi w : Nat → Int32} (H : HallM R N a vw mn al vi) {r s n lone : Nat} (hr : r < R) (hs : s + n ≤ N r) (hl : lone < 1000) : ∀ fu i, i ≤ n → n + 1 ≤ i + fu → fX9_isPlace_21 fu (nI R) mn al w (nI r) (nI s) (nI n) (nI lone) (bI (seqM (a r) (frW w r) s i)) (nI (s + i)) = some (bI (seqM (a r) (frW w r) s n && decide (fb_sm (loneW N a (layF w r s n 31)) R ≤ lone)), w) := by
  obtain ⟨hR, hvw, hrow⟩ := id H
  obtain ⟨⟨hN1, hN9⟩, hmn, hal, hvi⟩ := hrow r hr
  have z : (0 : Int32) = bI false := rfl
  have o : (1 : Int32) = bI true := rfl
  intro fu
  induction fu with
  | zero => intro i h1 h2; omega
  | succ fu ih =>
    intro i h1 h2
    have hnext := ih (i + 1)
    rw [seqM_s, ← Nat.add_assoc, ← nI_1] at hnext
    rw [fX9_isPlace_21, nI_add]
    by_cases c0 : i = n
    · subst c0
      rw [if_pos (nI_le (Nat.le_refl _) (by omega))]
      cases c1 : seqM (a r) (frW w r) s i
      · rw [if_pos (by decide)]
        rfl
      · rw [if_neg (by decide), m_lay (by omega) (by omega), Option.bind_some, m_allLone H, Option.bind_some]
        have hb := lone_bound (a := a) (w := layF w r s i 31) (fun r hr => (hrow r hr).1.2)
        have hw : layF (layF w r s i 31) r s i 0 = w := layF_twice 31 (fun k hk => by
          have h3 := (of_decide_eq_true c1) k hk
          exact of_decide_eq_true h3.1)
        unfold fX9_isPlace_113
        rw [m_lay (w := layF w r s i (31 : Int32)) (by omega) (by omega), hw, Option.bind_some, Option.bind_some]
        by_cases c2 : fb_sm (loneW N a (layF w r s i 31)) R ≤ lone
        · rw [if_neg (nI_nlt c2 (by omega)), if_neg (by decide), decide_eq_true c2]
          rfl
        · rw [if_pos (nI_lt (by omega) (by omega)), if_neg (by decide), decide_eq_false c2]
          rfl
    · rw [if_neg (nI_ge (by omega) (by omega))]
      cases c1 : seqM (a r) (frW w r) s i
      · rw [c1, Bool.false_and] at hnext
        rw [if_pos (by decide), z]
        exact hnext (by omega) (by omega)
      · rw [c1, Bool.true_and] at hnext
        rw [if_neg (by decide), m_isFree (by omega) (by omega), Option.bind_some]
        cases c2 : frW w r (s + i)
        · rw [c2, Bool.false_and] at hnext
          rw [if_pos (by decide), z]
          exact hnext (by omega) (by omega)
        · rw [c2, Bool.true_and] at hnext
          rw [if_neg (by decide)]
          by_cases c3 : i = 0
          · subst c3
            rw [if_pos (show nI (s + 0) = nI s from rfl), o]
            exact hnext (by omega) (by omega)
          · have e1 : decide (i = 0) = false := decide_eq_false c3
            rw [e1, Bool.false_or] at hnext
            rw [if_neg (fun e => c3 (by have := (nI_eq (by omega) (by omega)).mp e; omega))]
            rw [show (9 : Int32) * nI r + nI (s + i) - 1 = nI (9 * r + (s + i - 1)) by
              rw [show (9 : Int32) = nI 9 from rfl, pk_mul, nI_add, show 9 * r + (s + i) = 9 * r + (s + i - 1) + 1 by omega, nI_pred], if_neg (nI_in (by omega) (by decide)), nI_clamp (by omega), hal (s + i - 1) (by omega)]
            cases c4 : a r (s + i - 1)
            · rw [c4] at hnext
              rw [if_pos (by decide), o]
              exact hnext (by omega) (by omega)
            · rw [c4] at hnext
              rw [if_neg (by decide), z]
              exact hnext (by omega) (by omega)
theorem m_isPlace {R : Nat} {N : Nat → Nat} {a : Nat → Nat → Bool} {vw : Nat → Nat → Nat} {mn al vi w : Nat → Int32} (H : HallM R N a vw mn al vi) {r s n lone : Nat} (hr : r < R) (hs : s ≤ 9) (hn : n ≤ 6) (hl : lone < 1000) : fX9_isPlace (nI R) mn al w (nI r) (nI s) (nI n) (nI lone) = some (bI (okM R N a w n lone r s), w) := by
  obtain ⟨hR, hvw, hrow⟩ := id H
  obtain ⟨⟨hN1, hN9⟩, hmn, hal, hvi⟩ := hrow r hr
  unfold fX9_isPlace okM
  rw [if_neg (nI_in (by omega) (by decide)), nI_clamp (by omega), hmn, nI_add]
  by_cases c0 : s + n ≤ N r
  · rw [if_pos (nI_le c0 (by omega)), decide_eq_true c0, Bool.true_and]
    exact m_placeLoop H hr c0 hl FU 0 (by omega) (by have := FU_ge (k := 10) (by decide); omega)
  · rw [if_neg (nI_ge (by omega) (by omega)), decide_eq_false c0]
    rfl
theorem m_has {o r : Nat} (ho : o < 1000) (hr : r < 31) : fX9_has (nI o) (nI r) = some (bI (o.testBit r)) := by
  unfold fX9_has
  rw [pk_shrN (by omega) _ r (s_l r (by omega)), show nI (o / 2 ^ r) &&& 1 = nI (o / 2 ^ r % 2 ^ 1) from fa_mask _ 1, Nat.testBit_eq_decide_div_mod_eq, Nat.pow_one]
  by_cases h3 : o / 2 ^ r % 2 = 1
  · rw [h3]
    decide
  · have h4 : o / 2 ^ r % 2 = 0 := by omega
    rw [h4]
    decide
def fvI (A : Acc) : Int32 := if A.1 = 0 then (-9 : Int32) else nI A.2.2.1
theorem m_129 {k23 : Int32 → Int32 → Int32 → Int32 → (Nat → Int32) → (Nat → Int32) → (Nat → Int32) → (Nat → Int32) → Int32 → Int32 → Int32 → Int32 → Int32 → Int32 → Option (Int32 × Int32 × Int32 × (Nat → Int32))} {k35 : Int32 → Int32 → Int32 → Int32 → (Nat → Int32) → (Nat → Int32) → (Nat → Int32) → (Nat → Int32) → Int32 → Int32 → Int32 → Int32 → Int32 → Int32 → Int32 → Option (Int32 × Int32 × Int32 × (Nat → Int32))} {v fd fv : Int32} {c r s : Nat} {mn vi al w : Nat → Int32} {x2 x3 x4 x5 x6 q : Int32} (hr : r < 4) : fX9_findPlace_129 k23 k35 v fd fv (nI c) mn vi al w x2 x3 x4 x5 x6 (nI r) (nI s) q = k35 v (nI (10 * r + s)) q (nI (c + 1)) mn vi al w x2 x3 x4 x5 (w r) (nI r) (nI (s + 1)) := by
  unfold fX9_findPlace_129 fX9_findPlace_134 fX9_findPlace_167 fX9_findPlace_185
  rw [if_neg (by decide), if_neg (by decide), if_neg (by decide), show (0 : Int32) + nI r = nI r by rw [show (0 : Int32) = nI 0 from rfl, nI_add, Nat.zero_add], if_neg (nI_in (by omega) (by decide)), nI_clamp (by omega), nI_1, nI_1, show (10 : Int32) * nI r + nI s = nI (10 * r + s) by rw [show (10 : Int32) = nI 10 from rfl, pk_mul, nI_add]]
theorem m_133 {k23 : Int32 → Int32 → Int32 → Int32 → (Nat → Int32) → (Nat → Int32) → (Nat → Int32) → (Nat → Int32) → Int32 → Int32 → Int32 → Int32 → Int32 → Int32 → Option (Int32 × Int32 × Int32 × (Nat → Int32))} {k35 : Int32 → Int32 → Int32 → Int32 → (Nat → Int32) → (Nat → Int32) → (Nat → Int32) → (Nat → Int32) → Int32 → Int32 → Int32 → Int32 → Int32 → Int32 → Int32 → Option (Int32 × Int32 × Int32 × (Nat → Int32))} {v fd fv : Int32} {c r s : Nat} {mn vi al w : Nat → Int32} {x2 x3 x4 x5 x6 q : Int32} : fX9_findPlace_133 k23 k35 v fd fv (nI c) mn vi al w x2 x3 x4 x5 x6 (nI r) (nI s) q = k35 v fd fv (nI (c + 1)) mn vi al w x2 x3 x4 x5 x6 (nI r) (nI (s + 1)) := by
  unfold fX9_findPlace_133 fX9_findPlace_134 fX9_findPlace_167 fX9_findPlace_185
  rw [if_pos rfl, if_pos rfl, if_pos rfl, nI_1, nI_1]
theorem m_findRow {R : Nat} {N : Nat → Nat} {a : Nat → Nat → Bool} {vw : Nat → Nat → Nat} {mn al vi w : Nat → Int32} (H : HallM R N a vw mn al vi) {r n lim o lone p : Nat} {A : Acc} (hr : r < R) (h1 : 1 ≤ n) (hn : n ≤ 6) (ho : o < 16) (hl : lone < 1000) (hlim : lim < 100) (hp : w r = nI p) (hp9 : p < 100) (hop : opS o lim (fun _ => p) r = true) (hA : accOk A 900) (k23 : Int32 → Int32 → Int32 → Int32 → (Nat → Int32) → (Nat → Int32) → (Nat → Int32) → (Nat → Int32) → Int32 → Int32 → Int32 → Int32 → Int32 → Int32 → Option (Int32 × Int32 × Int32 × (Nat → Int32))) :
    ∀ fu s, s ≤ N r → N r + 1 ≤ s + fu → fX9_findPlace_35 k23 fu (nI R) (plI (rowS (okM R N a w n lone r) (quS vw n r) r p A s)) (fvI (rowS (okM R N a w n lone r) (quS vw n r) r p A s)) (nI (rowS (okM R N a w n lone r) (quS vw n r) r p A s).1) mn vi al w (nI n) (nI lim) (nI o) (nI lone) (nI (rowS (okM R N a w n lone r) (quS vw n r) r p A s).2.2.2) (nI r) (nI s) =
      k23 (nI R) (plI (rowS (okM R N a w n lone r) (quS vw n r) r p A (N r))) (fvI (rowS (okM R N a w n lone r) (quS vw n r) r p A (N r))) (nI (rowS (okM R N a w n lone r) (quS vw n r) r p A (N r)).1) mn vi al w (nI n) (nI lim) (nI o) (nI lone) (nI (rowS (okM R N a w n lone r) (quS vw n r) r p A (N r)).2.2.2) (nI (r + 1)) := by
  obtain ⟨hR, hvw, hrow⟩ := id H
  obtain ⟨⟨hN1, hN9⟩, hmn, hal, hvi⟩ := hrow r hr
  have hbit : o.testBit r = true := by
    unfold opS at hop
    cases hz : o.testBit r
    · rw [hz] at hop; cases hop
    · rfl
  have hple : p ≤ lim := by
    unfold opS at hop
    rw [hbit, Bool.true_and] at hop
    exact of_decide_eq_true hop
  have z0 : (0 : Int32) + nI r = nI r := by rw [show (0 : Int32) = nI 0 from rfl, nI_add, Nat.zero_add]
  intro fu
  induction fu with
  | zero => intro s h1 h2; omega
  | succ fu ih =>
    intro s hs hfu
    have hok : accOk (rowS (okM R N a w n lone r) (quS vw n r) r p A s) (900 + s) := rowS_ok hA (by omega) (by omega) (quS_lt hvw hn r) hp9
    have hnext := ih (s + 1)
    rw [rowS] at hnext
    rw [fX9_findPlace_35, if_neg (nI_in (by omega) (by decide)), nI_clamp (by omega), hmn]
    by_cases c0 : s = N r
    · rw [if_pos (nI_le (by omega) (by omega)), nI_1, ← c0]
    · rw [if_neg (nI_ge (by omega) (by omega)), m_has (by omega) (by omega), Option.bind_some, hbit, if_neg (by decide), z0, if_neg (nI_in (by omega) (by decide)), nI_clamp (by omega), hp, if_neg (nI_nlt hple (by omega)), m_isPlace H hr (by omega) hn hl, Option.bind_some]
      dsimp only
      cases c1 : okM R N a w n lone r s
      · rw [c1, if_neg (by decide)] at hnext
        rw [if_pos (show bI false = 0 from rfl), nI_1]
        exact hnext (by omega) (by omega)
      · rw [c1, if_pos rfl] at hnext
        have hsn : s + n ≤ N r := by
          unfold okM at c1
          by_cases c : s + n ≤ N r
          · exact c
          · rw [decide_eq_false c] at c1; cases c1
        rw [if_neg (show ¬ bI true = 0 from by decide), m_viewsOf (f := fun k => vw r (s + k)) (by omega) (by omega) (fun k hk => by rw [Nat.add_assoc]; exact hvi (s + k) (by omega)), Option.bind_some]
        obtain ⟨B, hB⟩ : ∃ B, B = rowS (okM R N a w n lone r) (quS vw n r) r p A s := ⟨_, rfl⟩
        rw [← hB] at hnext hok ⊢
        obtain ⟨b1, b2, b3, b4⟩ := id hok
        have hq := quS_lt hvw hn r s
        rw [show fb_sm (fun k => vw r (s + k)) n = quS vw n r s from rfl]
        have hn0 : B.1 + 1 ≠ 0 := by omega
        by_cases d0 : B.1 = 0
        · rw [if_pos ((eq0 (by omega)).mpr d0), m_129 (by omega), hp]
          have e : accC B (10 * r + s) (quS vw n r s) p = (B.1 + 1, 10 * r + s, quS vw n r s, p) := if_pos (Or.inl d0)
          rw [e] at hnext
          unfold plI fvI at hnext
          rw [if_neg hn0, if_neg hn0] at hnext
          exact hnext (by omega) (by omega)
        · rw [if_neg (fun e => d0 ((eq0 (by omega)).mp e))]
          have ev : fvI B = nI B.2.2.1 := if_neg d0
          rw [ev]
          by_cases d1 : B.2.2.1 < quS vw n r s
          · rw [if_pos (nI_lt d1 (by omega)), m_129 (by omega), hp]
            have e : accC B (10 * r + s) (quS vw n r s) p = (B.1 + 1, 10 * r + s, quS vw n r s, p) := if_pos (Or.inr (Or.inl d1))
            rw [e] at hnext
            unfold plI fvI at hnext
            rw [if_neg hn0, if_neg hn0] at hnext
            exact hnext (by omega) (by omega)
          · rw [if_neg (nI_nlt (by omega) (by omega))]
            by_cases d2 : quS vw n r s = B.2.2.1
            · rw [if_pos (by rw [d2]), if_neg (show ¬ (nI r < 0 ∨ 229 ≤ r) from fun z => z.elim (nI_pos (by omega)) (fun z => by omega))]
              by_cases d3 : p < B.2.2.2
              · rw [if_neg (show ¬ nI B.2.2.2 ≤ w r from by rw [hp]; exact nI_ge d3 (by omega)), m_129 (by omega), hp]
                have e : accC B (10 * r + s) (quS vw n r s) p = (B.1 + 1, 10 * r + s, quS vw n r s, p) := if_pos (Or.inr (Or.inr ⟨d2, d3⟩))
                rw [e] at hnext
                unfold plI fvI at hnext
                rw [if_neg hn0, if_neg hn0] at hnext
                exact hnext (by omega) (by omega)
              · rw [if_pos (show nI B.2.2.2 ≤ w r from by rw [hp]; exact nI_le (by omega) (by omega)), m_133]
                have e : accC B (10 * r + s) (quS vw n r s) p = (B.1 + 1, B.2) := if_neg (fun z => by omega)
                rw [e] at hnext
                unfold plI fvI at hnext ⊢
                rw [if_neg hn0, if_neg hn0] at hnext
                rw [if_neg d0]
                exact hnext (by omega) (by omega)
            · rw [if_neg (fun z => d2 ((nI_eq (by omega) (by omega)).mp z)), m_133]
              have e : accC B (10 * r + s) (quS vw n r s) p = (B.1 + 1, B.2) := if_neg (fun z => by omega)
              rw [e] at hnext
              unfold plI fvI at hnext ⊢
              rw [if_neg hn0, if_neg hn0] at hnext
              rw [if_neg d0]
              exact hnext (by omega) (by omega)
theorem m_findAll {R : Nat} {N : Nat → Nat} {a : Nat → Nat → Bool} {vw : Nat → Nat → Nat} {mn al vi w : Nat → Int32} (H : HallM R N a vw mn al vi) {n lim o lone : Nat} {p : Nat → Nat} (h1 : 1 ≤ n) (hn : n ≤ 6) (ho : o < 16) (hl : lone < 1000) (hlim : lim < 100) (hp : ∀ r, r < R → w r = nI (p r) ∧ p r < 100) :
    ∀ fu r, r ≤ R → R + 1 ≤ r + fu → fX9_findPlace_23 fu (nI R) (plI (allS (opS o lim p) (okM R N a w n lone) (quS vw n) N p r)) (fvI (allS (opS o lim p) (okM R N a w n lone) (quS vw n) N p r)) (nI (allS (opS o lim p) (okM R N a w n lone) (quS vw n) N p r).1) mn vi al w (nI n) (nI lim) (nI o) (nI lone) (nI (allS (opS o lim p) (okM R N a w n lone) (quS vw n) N p r).2.2.2) (nI r) =
      some (plI (allS (opS o lim p) (okM R N a w n lone) (quS vw n) N p R), fvI (allS (opS o lim p) (okM R N a w n lone) (quS vw n) N p R), nI (allS (opS o lim p) (okM R N a w n lone) (quS vw n) N p R).1, w) := by
  obtain ⟨hR, hvw, hrow⟩ := id H
  intro fu
  induction fu with
  | zero => intro r h1 h2; omega
  | succ fu ih =>
    intro r hr hfu
    rw [fX9_findPlace_23]
    by_cases c0 : r = R
    · subst c0
      rw [if_pos (nI_le (Nat.le_refl _) (by omega))]
    · have hlt : r < R := by omega
      obtain ⟨⟨hN1, hN9⟩, hmn, hal, hvi⟩ := hrow r hlt
      have hok : accOk (allS (opS o lim p) (okM R N a w n lone) (quS vw n) N p r) (9 * r) := allS_ok (by omega) (fun k hk => (hrow k (by omega)).1.2) (quS_lt hvw hn) (fun k hk => (hp k (by omega)).2)
      have hnext := ih (r + 1) (by omega) (by omega)
      rw [allS] at hnext
      rw [if_neg (nI_ge hlt (by omega))]
      cases c1 : opS o lim p r
      · rw [c1, if_neg (by decide)] at hnext
        rw [show FU = 4999 + 1 from rfl, fX9_findPlace_35, if_neg (nI_in (by omega) (by decide)), nI_clamp (by omega), hmn, if_neg (show ¬ nI (N r) ≤ 0 from nI_nle (by omega) (by omega)), m_has (by omega) (by omega), Option.bind_some, nI_1]
        cases c2 : o.testBit r
        · rw [if_pos (by decide)]
          exact hnext
        · have hple : ¬ p r ≤ lim := by
            unfold opS at c1
            rw [c2, Bool.true_and] at c1
            exact of_decide_eq_false c1
          rw [if_neg (by decide), show (0 : Int32) + nI r = nI r by rw [show (0 : Int32) = nI 0 from rfl, nI_add, Nat.zero_add], if_neg (nI_in (by omega) (by decide)), nI_clamp (by omega), (hp r hlt).1, if_pos (nI_lt (by omega) (by have := (hp r hlt).2; omega))]
          exact hnext
      · rw [c1, if_pos rfl] at hnext
        have h2 := m_findRow H (A := allS (opS o lim p) (okM R N a w n lone) (quS vw n) N p r) (lim := lim) (o := o) (p := p r) (lone := lone) hlt h1 hn ho hl hlim (hp r hlt).1 (hp r hlt).2 c1 (hok.up (by omega)) (fX9_findPlace_23 fu) FU 0 (by omega) (by have := FU_ge (k := 10) (by decide); omega)
        rw [rowS] at h2
        exact h2.trans hnext
theorem m_findPlace {R : Nat} {N : Nat → Nat} {a : Nat → Nat → Bool} {vw : Nat → Nat → Nat} {mn al vi w : Nat → Int32} (H : HallM R N a vw mn al vi) {n lim o lone : Nat} {p : Nat → Nat} (h1 : 1 ≤ n) (hn : n ≤ 6) (ho : o < 16) (hl : lone < 1000) (hlim : lim < 100) (hp : ∀ r, r < R → w r = nI (p r) ∧ p r < 100) (f1 f2 f3 : Int32) :
    fX9_findPlace (nI R) f1 f2 f3 mn vi al w (nI n) (nI lim) (nI o) (nI lone) = some (plI (allS (opS o lim p) (okM R N a w n lone) (quS vw n) N p R), fvI (allS (opS o lim p) (okM R N a w n lone) (quS vw n) N p R), nI (allS (opS o lim p) (okM R N a w n lone) (quS vw n) N p R).1, w) := by
  unfold fX9_findPlace
  exact m_findAll H h1 hn ho hl hlim hp FU 0 (by omega) (by have := FU_ge (k := 10) (by decide); have := H.1; omega)
