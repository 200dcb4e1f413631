/-! one row, on both sides -/
theorem m_200 {k57 : Int32 → Int32 → Int32 → (Nat → Int32) → (Nat → Int32) → (Nat → Int32) → (Nat → Int32) → (Nat → Int32) → Int32 → Int32 → Int32 → Int32 → Option (Int32 × Int32 × Int32 × (Nat → Int32) × (Nat → Int32) × (Nat → Int32) × (Nat → Int32))} {t rr x1 x2 x3 : Int32} {i : Nat} {T mm mv ma mp : Nat → Int32} : fX9_readRow_200 k57 t (nI i) rr T mm mv ma mp x1 x2 x3 1 = k57 t (nI (i + 1)) rr T mm mv ma mp x1 x2 x3 1 ∧ fX9_readRow_200 k57 t (nI i) rr T mm mv ma mp x1 x2 x3 0 = k57 t (nI i) rr T mm mv ma mp x1 x2 x3 0 := by
  unfold fX9_readRow_200 fX9_readRow_215
  rw [i1_t, i0_t, pl1, pl0]
  exact ⟨rfl, rfl⟩
theorem m_fin {fu t i R n p : Nat} {s : Bool} {T mm mv ma mp : Nat → Int32} (hR : R < 4) (hn : n ≤ 9) : fX9_readRow_57 (fu + 1) (nI t) (nI i) (nI R) T mm mv ma mp (nI p) (nI n) (bI s) 0 = (if n = 0 ∨ s = true then some (0, nI i, nI R, mm, mv, ma, mp) else some (1, nI i, nI (R + 1), upd mm R (nI n), mv, ma, upd mp R (nI p))) := by
  rw [fX9_readRow_57, i0_t]
  by_cases h0 : n = 0
  · subst h0
    rw [if_pos (show nI 0 = (0 : Int32) from rfl), if_pos (Or.inl rfl)]
  · rw [if_neg (fun e => h0 ((eq0 (by omega)).mp e))]
    cases s with
    | false =>
      rw [ib_f, lp0x, Nat.zero_add, if_neg (nI_in (by omega) (by decide)), if_neg (nI_in (by omega) (by decide)), nI_clamp (by omega), nI_1, if_neg (fun g => g.elim h0 (fun q => by cases q))]
    | true => rw [ib_t, if_pos (Or.inr rfl)]
def letM (t i : Nat) (T : Nat → Int32) : Int32 := if t ≤ i then 0 else T i
theorem m_57 {fu t i : Nat} {T mm mv ma mp : Nat → Int32} {rr x1 x2 x3 : Int32} (ht : t ≤ 80) (hi : i ≤ t) : fX9_readRow_57 (fu + 1) (nI t) (nI i) rr T mm mv ma mp x1 x2 x3 1 = fX9_readRow_86 (fX9_readRow_57 fu) (nI t) (nI i) rr T mm mv ma mp x1 x2 x3 (letM t i T) := by
  rw [fX9_readRow_57, i1_t]
  unfold letM
  by_cases h : t ≤ i
  · rw [if_pos (nI_le h (by omega)), if_pos h]
  · rw [if_neg (nI_ge (by omega) (by omega)), if_neg h, if_neg (nI_in (by omega) (by decide)), nI_clamp (by omega)]
theorem m_stop {fu t i R n p c : Nat} {s : Bool} {T mm mv ma mp : Nat → Int32} (ht : t ≤ 80) (hi : i ≤ t) (hR : R < 4) (hn : n ≤ 9) (hc : c < 256) (hl : letM t i T = nI c) (h1 : ¬ ((48 ≤ c ∧ c ≤ 57) ∧ n < 9)) (h2 : ¬ (c = 124 ∧ 1 ≤ n ∧ n < 9 ∧ s = false)) : fX9_readRow_57 (fu + 1 + 1) (nI t) (nI i) (nI R) T mm mv ma mp (nI p) (nI n) (bI s) 1 = (if n = 0 ∨ s = true then some (0, nI i, nI R, mm, mv, ma, mp) else some (1, nI i, nI (R + 1), upd mm R (nI n), mv, ma, upd mp R (nI p))) := by
  have h157 : fX9_readRow_157 (fX9_readRow_57 (fu + 1)) (nI t) (nI i) (nI R) T mm mv ma mp (nI p) (nI n) (bI s) 0 (nI c) = fX9_readRow_57 (fu + 1) (nI t) (nI i) (nI R) T mm mv ma mp (nI p) (nI n) (bI s) 0 := by
    unfold fX9_readRow_157
    rw [m_200.2]
    by_cases g : c = 124
    · subst g
      rw [if_pos (show nI 124 = (124 : Int32) from rfl)]
      by_cases g0 : n = 0
      · rw [if_pos ((le0 (by omega)).mpr g0)]
      · rw [if_neg (fun e => g0 ((le0 (by omega)).mp e))]
        by_cases g9 : 9 ≤ n
        · rw [if_pos (show (9 : Int32) ≤ nI n from nI_le' (a := 9) g9 (by omega))]
        · rw [if_neg (show ¬ (9 : Int32) ≤ nI n from nI_ge (b := 9) (by omega) (by decide))]
          cases s with
          | false => exact absurd ⟨rfl, by omega, by omega, rfl⟩ h2
          | true => rw [ib_t]
    · rw [if_neg (show ¬ nI c = (124 : Int32) from fun e => g (nI_inj (y := 124) (by omega) (by decide) e))]
  rw [m_57 ht hi, hl]
  unfold fX9_readRow_86
  rw [l_dig hc, Option.bind_some, h157, m_fin hR hn]
  by_cases g : 48 ≤ c ∧ c ≤ 57
  · rw [decide_eq_true g, ib_t, if_pos (show (9 : Int32) ≤ nI n from nI_le' (a := 9) (by omega) (by omega))]
  · rw [decide_eq_false g, ib_f]
theorem m_dig {fu t i R n p d : Nat} {s : Bool} {T mm mv ma mp : Nat → Int32} (ht : t ≤ 80) (hi : i < t) (hR : R < 4) (hn : n < 9) (hd : d ≤ 9) (hl : T i = nI (48 + d)) : fX9_readRow_57 (fu + 1) (nI t) (nI i) (nI R) T mm mv ma mp (nI p) (nI n) (bI s) 1 = fX9_readRow_57 fu (nI t) (nI (i + 1)) (nI R) T mm (upd mv (9 * R + n) (nI d)) (upd ma (9 * R + n) (bI false)) mp (nI p) (nI (n + 1)) (bI false) 1 := by
  have hl2 : letM t i T = nI (48 + d) := by
    unfold letM
    rw [if_neg (by omega)]
    exact hl
  have eix : (9 : Int32) * nI R + nI n = nI (9 * R + n) := by rw [show (9 : Int32) = nI 9 from rfl, pk_mul, nI_add]
  have ed : nI (48 + d) - (48 : Int32) = nI d := by
    rw [show (48 : Int32) = nI 48 from rfl, pk_sub (by omega)]
    congr 1
    omega
  rw [m_57 ht (by omega), hl2]
  unfold fX9_readRow_86
  rw [l_dig (by omega), Option.bind_some, decide_eq_true (by omega), ib_t, if_neg (show ¬ (9 : Int32) ≤ nI n from nI_ge (b := 9) hn (by decide)), eix, if_neg (nI_in (by omega) (by decide)), if_neg (nI_in (by omega) (by decide)), nI_clamp (by omega), ed, m_200.1, nI_1]
  rfl
theorem m_bar {fu t i R n p : Nat} {T mm mv ma mp : Nat → Int32} (ht : t ≤ 80) (hi : i < t) (hR : R < 4) (n1 : 1 ≤ n) (hn : n < 9) (hl : T i = nI 124) : fX9_readRow_57 (fu + 1) (nI t) (nI i) (nI R) T mm mv ma mp (nI p) (nI n) (bI false) 1 = fX9_readRow_57 fu (nI t) (nI (i + 1)) (nI R) T mm mv (upd ma (9 * R + (n - 1)) (bI true)) mp (nI p) (nI n) (bI true) 1 := by
  have hl2 : letM t i T = nI 124 := by
    unfold letM
    rw [if_neg (by omega)]
    exact hl
  have eix : (9 : Int32) * nI R + nI n - 1 = nI (9 * R + (n - 1)) := by
    rw [show (9 : Int32) = nI 9 from rfl, pk_mul, nI_add, show (1 : Int32) = nI 1 from rfl, pk_sub (by omega)]
    congr 1
    omega
  rw [m_57 ht (by omega), hl2]
  unfold fX9_readRow_86 fX9_readRow_157
  rw [l_dig (by omega), Option.bind_some, decide_eq_false (by omega), ib_f, if_pos (show nI 124 = (124 : Int32) from rfl), if_neg (fun e => by have := (le0 (by omega)).mp e; omega), if_neg (show ¬ (9 : Int32) ≤ nI n from nI_ge (b := 9) hn (by decide)), ib_f, eix, if_neg (nI_in (by omega) (by decide)), nI_clamp (by omega), m_200.1]
  rfl
theorem c_end {fu t rr aw : Nat} {cp cs cj cv L : Nat → Int32} (ht : t ≤ 80) (haw : aw < 9) : fX4_readFrom_12 (fu + 1) (nI rr) (nI aw) cp cs cj cv (nI t) L (nI t) = (if aw = 1 ∨ aw = 4 then some (-9, nI rr, nI aw, cp, cs, cj, cv) else some (nI t, nI rr, nI aw, cp, cs, cj, cv)) := by
  rw [fX4_readFrom_12]
  unfold fX7_length
  rw [Option.bind_some, if_pos (nI_le (Nat.le_refl _) (by omega)), Option.bind_some]
  by_cases h1 : aw = 1
  · rw [if_pos (show nI aw = (1 : Int32) from by rw [h1]; rfl), if_pos (Or.inl h1)]
  · rw [if_neg (show ¬ nI aw = (1 : Int32) from fun e => h1 (nI_inj (y := 1) (by omega) (by decide) e))]
    by_cases h4 : aw = 4
    · rw [if_pos (show nI aw = (4 : Int32) from by rw [h4]; rfl), if_pos (Or.inr h4)]
    · rw [if_neg (show ¬ nI aw = (4 : Int32) from fun e => h4 (nI_inj (y := 4) (by omega) (by decide) e)), if_neg (fun g => g.elim h1 h4)]
theorem c_step {fu t i : Nat} {rr aw : Int32} {cp cs cj cv L : Nat → Int32} (ht : t ≤ 80) (hi : i < t) : fX4_readFrom_12 (fu + 1) rr aw cp cs cj cv (nI t) L (nI i) = ((fX4_takes rr aw cp cs cj cv (L i)).bind fun q7 => if q7.1 = 0 then some (nI i, q7.2.1, q7.2.2.1, q7.2.2.2.1, q7.2.2.2.2.1, q7.2.2.2.2.2.1, q7.2.2.2.2.2.2) else fX4_readFrom_12 fu q7.2.1 q7.2.2.1 q7.2.2.2.1 q7.2.2.2.2.1 q7.2.2.2.2.2.1 q7.2.2.2.2.2.2 (nI t) L (nI (i + 1))) := by
  rw [fX4_readFrom_12]
  unfold fX7_length fX7_letterAt
  rw [Option.bind_some, if_neg (nI_ge (by omega) (by omega)), if_neg (nI_pos (by omega)), if_neg (nI_ge (by omega) (by omega)), if_neg (nI_in (by omega) (by decide)), Option.bind_some, nI_clamp (by omega), nI_1]
theorem L_row {t : Nat} {L T : Nat → Int32} (X : TextR t L T) {R p : Nat} {mm mp : Nat → Int32} :
    ∀ (m i n fuC fuR : Nat) (s : Bool) (cp cs cj cv mv ma : Nat → Int32), i + m = t → m + 1 ≤ fuC → m + 2 ≤ fuR → PartR R n s p cp cs cj cv ma mv →
    (∃ (i' fuC' n' : Nat) (cs' cj' cv' mv' ma' : Nat → Int32), i ≤ i' ∧ i' ≤ t ∧ t + 1 ≤ i' + fuC' ∧ 1 ≤ n' ∧ PartR R n' false p cp cs' cj' cv' ma' mv' ∧
      fX9_readRow_57 fuR (nI t) (nI i) (nI R) T mm mv ma mp (nI p) (nI n) (bI s) 1 = some (1, nI i', nI (R + 1), upd mm R (nI n'), mv', ma', upd mp R (nI p)) ∧
      fX4_readFrom_12 fuC (nI (R + 1)) (nI (awN n s)) cp cs cj cv (nI t) L (nI i) = fX4_readFrom_12 fuC' (nI (R + 1)) (nI 4) cp cs' cj' cv' (nI t) L (nI i') ∧
      (∀ j, j < R → cs' j = cs j ∧ cj' j = cj j) ∧ (∀ j, j < 9 * R → cv' j = cv j ∧ mv' j = mv j ∧ ma' j = ma j) ∧ (∀ c, c < 256 → i' < t → T i' = nI c → ¬ ((48 ≤ c ∧ c ≤ 57) ∧ n' < 9) ∧ ¬ (c = 124 ∧ n' < 9))) ∨
    (∃ (i' : Nat) (b1 b2 r' : Int32) (e1 e2 e3 e4 e5 e6 e7 e8 : Nat → Int32), i' ≤ t ∧
      fX9_readRow_57 fuR (nI t) (nI i) (nI R) T mm mv ma mp (nI p) (nI n) (bI s) 1 = some (0, nI i', r', e1, e2, e3, e4) ∧
      fX4_readFrom_12 fuC (nI (R + 1)) (nI (awN n s)) cp cs cj cv (nI t) L (nI i) = some (nI i', b1, b2, e5, e6, e7, e8)) := by
  obtain ⟨ht, hX⟩ := X
  intro m
  induction m with
  | zero =>
    intro i n fuC fuR s cp cs cj cv mv ma hi hfC hfR P
    obtain ⟨fuC, rfl⟩ : ∃ k, fuC = k + 1 := ⟨fuC - 1, by omega⟩
    obtain ⟨fuR, rfl⟩ : ∃ k, fuR = k + 1 + 1 := ⟨fuR - 2, by omega⟩
    have hit : i = t := by omega
    subst hit
    obtain ⟨hR, hn, -⟩ := id P
    have hstop := m_stop (fu := fuR) (t := i) (i := i) (R := R) (n := n) (p := p) (c := 0) (s := s) (T := T) (mm := mm) (mv := mv) (ma := ma) (mp := mp) ht (Nat.le_refl _) hR hn (by decide) (by unfold letM; rw [if_pos (Nat.le_refl _)]; rfl) (by omega) (by omega)
    by_cases h : n = 0 ∨ s = true
    · right
      rw [if_pos h] at hstop
      have hce : fX4_readFrom_12 (fuC + 1) (nI (R + 1)) (nI (awN n s)) cp cs cj cv (nI i) L (nI i) = some (nI i, nI (R + 1), nI 3, cp, cs, cj, cv) := by
        rw [show awN n s = 3 from if_pos h, c_end ht (by decide), if_neg (by decide)]
      exact ⟨i, _, _, _, _, _, _, _, _, _, _, _, Nat.le_refl _, hstop, hce⟩
    · left
      rw [if_neg h] at hstop
      have hs : s = false := by cases s with
        | false => rfl
        | true => exact absurd (Or.inr rfl) h
      subst hs
      refine ⟨i, fuC + 1, n, cs, cj, cv, mv, ma, Nat.le_refl _, Nat.le_refl _, by omega, by omega, P, hstop, ?_, fun j hj => ⟨rfl, rfl⟩, fun j hj => ⟨rfl, rfl, rfl⟩, fun c _ hq => by omega⟩
      rw [show awN n false = 4 from if_neg h]
  | succ m ih =>
    intro i n fuC fuR s cp cs cj cv mv ma hi hfC hfR P
    obtain ⟨fuC, rfl⟩ : ∃ k, fuC = k + 1 := ⟨fuC - 1, by omega⟩
    obtain ⟨fuR, rfl⟩ : ∃ k, fuR = k + 1 + 1 := ⟨fuR - 2, by omega⟩
    obtain ⟨hR, hn, hs, ⟨p1, p9, hp⟩, hcs, hk, hj, hl⟩ := id P
    obtain ⟨hLT, c, hc, hTc⟩ := hX i (by omega)
    have hLc : L i = nI c := hLT.trans hTc
    have hlet : letM t i T = nI c := by
      unfold letM
      rw [if_neg (by omega)]
      exact hTc
    by_cases hdig : (48 ≤ c ∧ c ≤ 57) ∧ n < 9
    · -- a seat
      obtain ⟨d, rfl⟩ : ∃ d, c = 48 + d := ⟨c - 48, by omega⟩
      have P2 : PartR R (n + 1) false p cp (upd cs R (nI (n + 1))) (if awN n s = 4 then upd cj R (cj R ||| ((1 : Int32) <<< ((nI n - 1) &&& 31))) else cj) (upd cv (9 * R + n) (nI d)) (upd ma (9 * R + n) (bI false)) (upd mv (9 * R + n) (nI d)) := by
        refine ⟨hR, by omega, fun g => (by cases g), ⟨p1, p9, hp⟩, upd_at _ _ _, fun k hk2 => ?_, ?_, fun k hk2 => ?_⟩
        · by_cases e : k = n
          · subst e
            rw [upd_at, upd_at, upd_at]
            exact ⟨rfl, ⟨d, by omega, rfl⟩, ⟨false, rfl⟩⟩
          · rw [upd_ne (by omega), upd_ne (by omega), upd_ne (by omega)]
            exact hk k (by omega)
        · by_cases h4 : awN n s = 4
          · have hns : ¬ (n = 0 ∨ s = true) := fun g => by
              unfold awN at h4
              rw [if_pos g] at h4
              cases h4
            have hsf : s = false := by cases s with
              | false => rfl
              | true => exact absurd (Or.inr rfl) hns
            have hn0 : n ≠ 0 := fun g => hns (Or.inl g)
            rw [if_pos h4, upd_at, hj, show nI n - (1 : Int32) = nI (n - 1) from by rw [show (1 : Int32) = nI 1 from rfl, sub1 (by omega)], Mk_set (by omega)]
            refine Mk_cong (fun k hk9 => ?_)
            by_cases e : k = n - 1
            · have hz := hl k (by omega)
              rw [hsf] at hz
              rw [upd_ne (by omega), decide_eq_true e, Bool.or_true, decide_eq_true (show k + 1 < n + 1 by omega), decide_eq_true (show ma (9 * R + k) = 0 from hz)]
              rfl
            · rw [decide_eq_false e, Bool.or_false]
              by_cases g : k + 1 < n
              · rw [upd_ne (by omega), decide_eq_true g, decide_eq_true (show k + 1 < n + 1 by omega)]
              · rw [decide_eq_false g, decide_eq_false (show ¬ k + 1 < n + 1 by omega), Bool.false_and, Bool.false_and]
          · rw [if_neg h4, hj]
            have hns : n = 0 ∨ s = true := by
              by_cases g : n = 0 ∨ s = true
              · exact g
              · unfold awN at h4
                rw [if_neg g] at h4
                exact absurd rfl h4
            refine Mk_cong (fun k hk9 => ?_)
            by_cases g : k + 1 < n
            · rw [upd_ne (by omega), decide_eq_true g, decide_eq_true (show k + 1 < n + 1 by omega)]
            · rw [decide_eq_false g, Bool.false_and]
              by_cases e : k + 1 = n
              · have hz := hl k e
                have hst : s = true := hns.elim (fun q => by omega) id
                rw [hst] at hz
                rw [upd_ne (by omega), hz]
                show false = (decide (k + 1 < n + 1) && decide (bI true = 0))
                rw [decide_eq_false (show ¬ bI true = 0 by decide), Bool.and_false]
              · rw [decide_eq_false (show ¬ k + 1 < n + 1 by omega), Bool.false_and]
        · have : k = n := by omega
          subst this
          exact upd_at _ _ _
      have hm := m_dig (fu := fuR + 1) (s := s) (mm := mm) (mv := mv) (ma := ma) (mp := mp) (p := p) ht (show i < t by omega) hR hdig.2 (show d ≤ 9 by omega) hTc
      have hcl : fX4_readFrom_12 (fuC + 1) (nI (R + 1)) (nI (awN n s)) cp cs cj cv (nI t) L (nI i) = fX4_readFrom_12 fuC (nI (R + 1)) (nI (awN (n + 1) false)) cp (upd cs R (nI (n + 1))) (if awN n s = 4 then upd cj R (cj R ||| ((1 : Int32) <<< ((nI n - 1) &&& 31))) else cj) (upd cv (9 * R + n) (nI d)) (nI t) L (nI (i + 1)) := by
        rw [c_step ht (by omega), hLc, c_takesDig P (by omega), if_pos hdig.2, Option.bind_some, i1_t]
        have e4 : awN (n + 1) false = 4 := if_neg (fun g => g.elim (fun q => by omega) (fun q => by cases q))
        rw [e4]
        rfl
      rw [hm, hcl]
      rcases ih (i + 1) (n + 1) fuC (fuR + 1) false cp _ _ _ _ _ (by omega) (by omega) (by omega) P2 with ⟨i', fuC', n', cs', cj', cv', mv', ma', g1, g2, g3, g4, g5, g6, g7, g8, g9, g10⟩ | h
      · left
        refine ⟨i', fuC', n', cs', cj', cv', mv', ma', by omega, g2, g3, g4, g5, g6, g7, fun j hj2 => ?_, fun j hj2 => ?_, g10⟩
        · obtain ⟨z1, z2⟩ := g8 j hj2
          rw [z1, z2, upd_ne (by omega)]
          refine ⟨rfl, ?_⟩
          by_cases h4 : awN n s = 4
          · rw [if_pos h4, upd_ne (by omega)]
          · rw [if_neg h4]
        · obtain ⟨z1, z2, z3⟩ := g9 j hj2
          rw [z1, z2, z3, upd_ne (by omega), upd_ne (by omega), upd_ne (by omega)]
          exact ⟨rfl, rfl, rfl⟩
      · right
        exact h
    · by_cases hbar : c = 124 ∧ 1 ≤ n ∧ n < 9 ∧ s = false
      · obtain ⟨rfl, hn1, hn9, rfl⟩ := hbar
        have e4 : awN n false = 4 := if_neg (fun g => g.elim (fun q => by omega) (fun q => by cases q))
        have e3 : awN n true = 3 := if_pos (Or.inr rfl)
        have P2 : PartR R n true p cp cs cj cv (upd ma (9 * R + (n - 1)) (bI true)) mv := by
          refine ⟨hR, hn, fun _ => ⟨hn1, hn9⟩, ⟨p1, p9, hp⟩, hcs, fun k hk2 => ?_, ?_, fun k hk2 => ?_⟩
          · obtain ⟨z1, z2, z3⟩ := hk k hk2
            refine ⟨z1, z2, ?_⟩
            by_cases e : k = n - 1
            · rw [e, upd_at]
              exact ⟨true, rfl⟩
            · rw [upd_ne (by omega)]
              exact z3
          · rw [hj]
            refine Mk_cong (fun k hk9 => ?_)
            by_cases g : k + 1 < n
            · rw [upd_ne (by omega)]
            · rw [decide_eq_false g, Bool.false_and, Bool.false_and]
          · have : k = n - 1 := by omega
            subst this
            exact upd_at _ _ _
        have hm := m_bar (fu := fuR + 1) (mm := mm) (mv := mv) (ma := ma) (mp := mp) (p := p) ht (show i < t by omega) hR hn1 hn9 hTc
        have hcl : fX4_readFrom_12 (fuC + 1) (nI (R + 1)) (nI (awN n false)) cp cs cj cv (nI t) L (nI i) = fX4_readFrom_12 fuC (nI (R + 1)) (nI (awN n true)) cp cs cj cv (nI t) L (nI (i + 1)) := by
          rw [c_step ht (by omega), hLc, c_takesBar P, if_pos ⟨e4, hn9⟩, Option.bind_some, i1_t, e3]
          rfl
        rw [hm, hcl]
        rcases ih (i + 1) n fuC (fuR + 1) true cp _ _ _ _ _ (by omega) (by omega) (by omega) P2 with ⟨i', fuC', n', cs', cj', cv', mv', ma', g1, g2, g3, g4, g5, g6, g7, g8, g9, g10⟩ | h
        · left
          refine ⟨i', fuC', n', cs', cj', cv', mv', ma', by omega, g2, g3, g4, g5, g6, g7, g8, fun j hj2 => ?_, g10⟩
          obtain ⟨z1, z2, z3⟩ := g9 j hj2
          rw [z1, z2, z3, upd_ne (by omega)]
          exact ⟨rfl, rfl, rfl⟩
        · right
          exact h
      · have hstop := m_stop (fu := fuR) (s := s) (p := p) (mm := mm) (mv := mv) (ma := ma) (mp := mp) ht (show i ≤ t by omega) hR hn hc hlet hdig hbar
        by_cases h : n = 0 ∨ s = true
        · right
          have e3 : awN n s = 3 := if_pos h
          rw [if_pos h] at hstop
          have htk : ∃ b1 b2 a1 a2 a3 a4, fX4_takes (nI (R + 1)) (nI (awN n s)) cp cs cj cv (nI c) = some (0, b1, b2, a1, a2, a3, a4) := by
            by_cases cd : 48 ≤ c ∧ c ≤ 57
            · obtain ⟨d, rfl⟩ : ∃ d, c = 48 + d := ⟨c - 48, by omega⟩
              rw [c_takesDig P (by omega), if_neg (fun g => hdig ⟨cd, g⟩)]
              exact ⟨_, _, _, _, _, _, rfl⟩
            · by_cases cb : c = 124
              · subst cb
                rw [c_takesBar P, if_neg (fun g => by rw [e3] at g; omega)]
                exact ⟨_, _, _, _, _, _, rfl⟩
              · by_cases cr : c = 114
                · subst cr
                  unfold fX4_takes fX4_takesRow
                  rw [e3, if_neg (show ¬ nI 114 = (72 : Int32) by decide), if_pos (show nI 114 = (114 : Int32) from rfl), if_neg (show ¬ nI 3 = (1 : Int32) by decide), if_neg (show ¬ nI 3 = (4 : Int32) by decide), Option.bind_some, if_neg bok0]
                  exact ⟨_, _, _, _, _, _, rfl⟩
                · rw [e3, c_takesOth hc cd cb cr (by decide) (by decide)]
                  exact ⟨_, _, _, _, _, _, rfl⟩
          obtain ⟨b1, b2, a1, a2, a3, a4, ek⟩ := htk
          have hce : fX4_readFrom_12 (fuC + 1) (nI (R + 1)) (nI (awN n s)) cp cs cj cv (nI t) L (nI i) = some (nI i, b1, b2, a1, a2, a3, a4) := by
            rw [c_step ht (by omega), hLc, ek, Option.bind_some, i0_t]
          exact ⟨i, _, _, _, _, _, _, _, _, _, _, _, by omega, hstop, hce⟩
        · left
          rw [if_neg h] at hstop
          have hsf : s = false := by cases s with
            | false => rfl
            | true => exact absurd (Or.inr rfl) h
          subst hsf
          refine ⟨i, fuC + 1, n, cs, cj, cv, mv, ma, Nat.le_refl _, by omega, by omega, by omega, P, hstop, ?_, fun j hj => ⟨rfl, rfl⟩, fun j hj => ⟨rfl, rfl, rfl⟩, fun c2 hc2 hq e => ?_⟩
          · rw [show awN n false = 4 from if_neg h]
          · have : c2 = c := nI_inj (by omega) (by omega) (e.symm.trans hTc)
            subst this
            exact ⟨hdig, fun g => hbar ⟨g.1, by omega, g.2, rfl⟩⟩
