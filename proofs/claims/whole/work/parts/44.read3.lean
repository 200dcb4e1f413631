/-! the whole text -/
theorem m_figure {t i : Nat} {T : Nat → Int32} (ht : t ≤ 80) (hi : i ≤ t) (hT : ∀ j, j < t → ∃ c, c < 256 ∧ T j = nI c) : (∃ d, i < t ∧ 1 ≤ d ∧ d ≤ 9 ∧ T i = nI (48 + d) ∧ fX9_figure (nI t) (nI i) T 1 9 = some (nI d, nI (i + 1))) ∨ ((∀ c, i < t → c < 256 → T i = nI c → ¬ (49 ≤ c ∧ c ≤ 57)) ∧ fX9_figure (nI t) (nI i) T 1 9 = some (-9, nI i)) := by
  unfold fX9_figure fX9_figure_28
  by_cases h : t ≤ i
  · right
    refine ⟨fun c hq => by omega, ?_⟩
    rw [if_pos (nI_le h (by omega)), m_in, Option.bind_some, decide_eq_false (by decide), ib_f]
  · rw [if_neg (nI_ge (by omega) (by omega)), if_neg (nI_in (by omega) (by decide)), nI_clamp (by omega), m_in, Option.bind_some]
    obtain ⟨c, hc, e⟩ := hT i (by omega)
    have ed := subI_toInt (a := c) (b := 48) (by omega) (by decide)
    have e1 : (1 : Int32).toInt = 1 := rfl
    have e9 : (9 : Int32).toInt = 9 := rfl
    rw [e]
    by_cases g : 49 ≤ c ∧ c ≤ 57
    · left
      have hd : nI c - (48 : Int32) = nI (c - 48) := by rw [show (48 : Int32) = nI 48 from rfl, pk_sub (by omega)]
      refine ⟨c - 48, by omega, by omega, by omega, by rw [show 48 + (c - 48) = c by omega], ?_⟩
      rw [decide_eq_true ⟨(fa_le _ _).mpr (by rw [show nI c - (48 : Int32) = nI c - nI 48 from rfl, ed, e1]; omega), (fa_le _ _).mpr (by rw [show nI c - (48 : Int32) = nI c - nI 48 from rfl, ed, e9]; omega)⟩, ib_t, hd, nI_1]
    · right
      refine ⟨fun c2 _ hc2 e2 => ?_, ?_⟩
      · have : c2 = c := nI_inj (by omega) (by omega) e2.symm
        subst this
        exact g
      · rw [decide_eq_false (fun q => by
          have q1 := (fa_le _ _).mp q.1
          have q2 := (fa_le _ _).mp q.2
          rw [show nI c - (48 : Int32) = nI c - nI 48 from rfl, ed] at q1 q2
          omega), ib_f]
theorem c_takesR {R aw : Nat} {cp cs cj cv : Nat → Int32} (hR : R ≤ 4) (haw : aw = 1 ∨ aw = 4) : fX4_takes (nI R) (nI aw) cp cs cj cv (nI 114) = (if R < 4 then some (1, nI (R + 1), nI 2, cp, upd cs R 0, upd cj R 0, cv) else some (0, nI R, nI aw, cp, cs, cj, cv)) := by
  have h16 : fX4_takesRow (nI R) (nI aw) cs cj = fX4_takesRow_16 (nI R) (nI aw) cs cj := by
    unfold fX4_takesRow
    rcases haw with rfl | rfl
    · rw [if_pos (show nI 1 = (1 : Int32) from rfl)]
    · rw [if_neg (show ¬ nI 4 = (1 : Int32) by decide), if_pos (show nI 4 = (4 : Int32) from rfl)]
  unfold fX4_takes
  rw [if_neg (show ¬ nI 114 = (72 : Int32) by decide), if_pos (show nI 114 = (114 : Int32) from rfl), h16]
  unfold fX4_takesRow_16
  rw [if_neg (nI_pos (by omega))]
  by_cases h : R < 4
  · rw [if_pos (show nI R < (4 : Int32) from nI_lt' (b := 4) h (by decide)), if_neg (nI_in (by omega) (by decide)), if_neg (nI_in (by omega) (by decide)), Option.bind_some, if_neg bok1, if_pos h, nI_clamp (by omega), nI_1]
    rfl
  · rw [if_neg (show ¬ nI R < (4 : Int32) from nI_nlt (b := 4) (by omega) (by omega)), Option.bind_some, if_neg bok0, if_neg h]
theorem c_takesP {R c : Nat} {cp cs cj cv : Nat → Int32} (hR : R < 4) (hc : c < 256) : fX4_takes (nI (R + 1)) (nI 2) cp cs cj cv (nI c) = (if 49 ≤ c ∧ c ≤ 57 then some (1, nI (R + 1), nI 3, upd cp R (nI (c - 48)), cs, cj, cv) else some (0, nI (R + 1), nI 2, cp, cs, cj, cv)) := by
  have ne : ∀ k, k < 1000 → k ≠ c → ¬ nI c = nI k := fun k g1 g2 e => g2 (nI_inj (by omega) g1 e).symm
  by_cases hd : 48 ≤ c ∧ c ≤ 57
  · have ed : nI c - (48 : Int32) = nI (c - 48) := by rw [show (48 : Int32) = nI 48 from rfl, pk_sub (by omega)]
    unfold fX4_takes fX4_takesDigit fX4_takesPrice
    rw [if_neg (show ¬ nI c = (72 : Int32) from ne 72 (by decide) (by omega)), if_neg (show ¬ nI c = (114 : Int32) from ne 114 (by decide) (by omega)), if_neg (show ¬ nI c = (124 : Int32) from ne 124 (by decide) (by omega)), if_neg (show ¬ nI c < (48 : Int32) from nI_nlt (b := 48) (by omega) (by omega)), if_neg (show ¬ (57 : Int32) < nI c from nI_nlt (a := 57) (by omega) (by decide)), ed, nI_pred R, c_hasRow1 (R := R + 1) (by omega) (by omega), Option.bind_some, i1_t, if_pos (show nI 2 = (2 : Int32) from rfl)]
    by_cases h0 : c = 48
    · subst h0
      rw [if_pos (show nI (48 - 48) = (0 : Int32) from rfl), Option.bind_some, if_neg bok0, Option.bind_some, i0_t, if_neg (by omega)]
    · rw [if_neg (fun e => by have := (eq0 (by omega)).mp e; omega), if_neg (nI_in (by omega) (by decide)), Option.bind_some, if_neg bok1, Option.bind_some, i1_t, if_pos (by omega), nI_clamp (by omega)]
      rfl
  · rw [if_neg (fun g => hd (by omega))]
    by_cases hb : c = 124
    · subst hb
      unfold fX4_takes fX4_takesAisle
      rw [if_neg (show ¬ nI 124 = (72 : Int32) by decide), if_neg (show ¬ nI 124 = (114 : Int32) by decide), if_pos (show nI 124 = (124 : Int32) from rfl), if_neg (show ¬ nI 2 = (4 : Int32) by decide), Option.bind_some, if_neg bok0]
    · by_cases hr : c = 114
      · subst hr
        unfold fX4_takes fX4_takesRow
        rw [if_neg (show ¬ nI 114 = (72 : Int32) by decide), if_pos (show nI 114 = (114 : Int32) from rfl), if_neg (show ¬ nI 2 = (1 : Int32) by decide), if_neg (show ¬ nI 2 = (4 : Int32) by decide), Option.bind_some, if_neg bok0]
      · exact c_takesOth hc hd hb hr (by decide) (by decide)
def Bnd (t i R aw : Nat) (T cp cs cj cv : Nat → Int32) : Prop := ∀ c, c < 256 → i < t → T i = nI c → c ≠ 114 → ∃ b1 b2 a1 a2 a3 a4, fX4_takes (nI R) (nI aw) cp cs cj cv (nI c) = some (0, b1, b2, a1, a2, a3, a4)
theorem L_text {t : Nat} {L T : Nat → Int32} (X : TextR t L T) :
    ∀ (fuM i R aw fuC : Nat) (cp cs cj cv mm mv ma mp : Nat → Int32), i ≤ t → t + 1 ≤ i + fuM → t + 1 ≤ i + fuC → (aw = 1 ∨ aw = 4) → Bnd t i R aw T cp cs cj cv → HR R cp cs cj cv mm mv ma mp →
    (∃ (R' aw' i' : Nat) (cp' cs' cj' cv' mm' mv' ma' mp' : Nat → Int32), fX4_readFrom_12 fuC (nI R) (nI aw) cp cs cj cv (nI t) L (nI i) = some (-9, nI R', nI aw', cp', cs', cj', cv') ∧ fX9_readHall_57 fuM (nI t) (nI i) (nI R) T mm mv ma mp = some (-9, nI i', nI R', mm', mv', ma', mp') ∧ HR R' cp' cs' cj' cv' mm' mv' ma' mp') ∨
    (∃ (k : Nat) (b1 b2 b3 b4 : Int32) (e1 e2 e3 e4 e5 e6 e7 e8 : Nat → Int32), k ≤ 80 ∧ fX4_readFrom_12 fuC (nI R) (nI aw) cp cs cj cv (nI t) L (nI i) = some (nI k, b1, b2, e1, e2, e3, e4) ∧ fX9_readHall_57 fuM (nI t) (nI i) (nI R) T mm mv ma mp = some (nI k, b3, b4, e5, e6, e7, e8)) := by
  obtain ⟨ht, hX⟩ := id X
  intro fuM
  induction fuM with
  | zero => intro i R aw fuC cp cs cj cv mm mv ma mp h1 h2; omega
  | succ fuM ih =>
    intro i R aw fuC cp cs cj cv mm mv ma mp hi hfM hfC haw hB H
    obtain ⟨hR4, hrow, hz⟩ := id H
    obtain ⟨fuC, rfl⟩ : ∃ k, fuC = k + 1 := ⟨fuC - 1, by omega⟩
    by_cases hit : i = t
    · subst hit
      left
      have hce := c_end (fu := fuC) (t := i) (rr := R) (aw := aw) (cp := cp) (cs := cs) (cj := cj) (cv := cv) (L := L) ht (by omega)
      rw [if_pos haw] at hce
      have hme : fX9_readHall_57 (fuM + 1) (nI i) (nI i) (nI R) T mm mv ma mp = some (-9, nI i, nI R, mm, mv, ma, mp) := by
        rw [fX9_readHall_57, if_pos (nI_le (Nat.le_refl _) (by omega))]
      exact ⟨R, aw, i, _, _, _, _, _, _, _, _, hce, hme, H⟩
    · obtain ⟨hLT, c, hc, hTc⟩ := hX i (by omega)
      have hLc : L i = nI c := hLT.trans hTc
      rw [fX9_readHall_57, if_neg (nI_ge (by omega) (by omega)), c_step ht (by omega), hLc]
      unfold fX9_readRow
      rw [if_neg (nI_in (by omega) (by decide)), nI_clamp (by omega), hTc]
      by_cases hr : c = 114
      · subst hr
        rw [if_pos (show nI 114 = (114 : Int32) from rfl), c_takesR hR4 haw]
        by_cases hR : R < 4
        · rw [if_pos hR, Option.bind_some, i1_t, if_neg (show ¬ nI R = (4 : Int32) from fun e => by have := nI_inj (y := 4) (by omega) (by decide) e; omega), nI_1]
          dsimp only
          rcases m_figure (i := i + 1) ht (by omega) (fun j hj => (hX j hj).2) with ⟨d, hi2, d1, d9, hTd, hf⟩ | ⟨hno, hf⟩
          · -- the price
            rw [hf, Option.bind_some, if_neg (m9 (by omega))]
            dsimp only
            obtain ⟨hLT2, -⟩ := hX (i + 1) hi2
            obtain ⟨fuC, rfl⟩ : ∃ k, fuC = k + 1 := ⟨fuC - 1, by omega⟩
            have P0 : PartR R 0 false d (upd cp R (nI d)) (upd cs R 0) (upd cj R 0) cv ma mv := ⟨hR, by omega, fun g => (by cases g), ⟨d1, d9, upd_at _ _ _⟩, upd_at _ _ _, fun k hk => by omega, by
              rw [upd_at, ← Mk_0]
              refine Mk_cong (fun k hk => ?_)
              rw [decide_eq_false (by omega), Bool.false_and], fun k hk => by omega⟩
            have hcl : fX4_readFrom_12 (fuC + 1) (nI (R + 1)) (nI 2) cp (upd cs R 0) (upd cj R 0) cv (nI t) L (nI (i + 1)) = fX4_readFrom_12 fuC (nI (R + 1)) (nI (awN 0 false)) (upd cp R (nI d)) (upd cs R 0) (upd cj R 0) cv (nI t) L (nI (i + 1 + 1)) := by
              rw [c_step ht (by omega), hLT2, hTd, c_takesP hR (by omega), if_pos (by omega), Option.bind_some, i1_t, show 48 + d - 48 = d by omega]
              rfl
            rw [hcl]
            have hrowL := L_row X (R := R) (p := d) (mm := mm) (mp := mp) (t - (i + 1 + 1)) (i + 1 + 1) 0 fuC FU false (upd cp R (nI d)) (upd cs R 0) (upd cj R 0) cv mv ma (by omega) (by omega) (by have := FU_ge (k := 100) (by decide); omega) P0
            rw [show nI 0 = (0 : Int32) from rfl, show bI false = (0 : Int32) from rfl] at hrowL
            rcases hrowL with ⟨i', fuC', n', cs', cj', cv', mv', ma', g1, g2, g3, g4, g5, g6, g7, g8, g9, g10⟩ | ⟨i', b1, b2, r', e1, e2, e3, e4, e5, e6, e7, e8, q1, q2, q3⟩
            · rw [g6, g7, Option.bind_some, i1_t]
              dsimp only
              obtain ⟨-, n9, -, ⟨p1, p9, hp⟩, hcs, hk, hj, hl⟩ := id g5
              have H2 : HR (R + 1) (upd cp R (nI d)) cs' cj' cv' (upd mm R (nI n')) mv' ma' (upd mp R (nI d)) := by
                refine ⟨by omega, fun r hr => ?_, fun j h1 h2 => by rw [upd_ne (by omega)]; exact hz j (by omega) h2⟩
                by_cases er : r = R
                · subst er
                  exact ⟨n', g4, n9, upd_at _ _ _, hcs, ⟨d, d1, d9, upd_at _ _ _, upd_at _ _ _⟩, hk, hj, fun k hk2 => hl k hk2⟩
                · obtain ⟨n, hn⟩ := hrow r (by omega)
                  exact ⟨n, RowR_cong (show r < R by omega) (fun j hj => upd_ne (by omega)) (fun j hj => (g8 j hj).1.trans (upd_ne (by omega))) (fun j hj => (g8 j hj).2.trans (upd_ne (by omega))) (fun j hj => (g9 j hj).1) (fun j hj => upd_ne (by omega)) (fun j hj => (g9 j hj).2.1) (fun j hj => (g9 j hj).2.2) (fun j hj => upd_ne (by omega)) hn⟩
              have hB2 : Bnd t i' (R + 1) 4 T (upd cp R (nI d)) cs' cj' cv' := fun c2 hc2 hi2 hT2 hne => by
                obtain ⟨z1, z2⟩ := g10 c2 hc2 hi2 hT2
                have e4' : awN n' false = 4 := if_neg (fun g => g.elim (fun q => by omega) (fun q => by cases q))
                by_cases cd : 48 ≤ c2 ∧ c2 ≤ 57
                · obtain ⟨d2, rfl⟩ : ∃ d2, c2 = 48 + d2 := ⟨c2 - 48, by omega⟩
                  have := c_takesDig g5 (d := d2) (by omega)
                  rw [if_neg (fun g => z1 ⟨cd, g⟩), e4'] at this
                  exact ⟨_, _, _, _, _, _, this⟩
                · by_cases cb : c2 = 124
                  · subst cb
                    have := c_takesBar g5
                    rw [if_neg (fun g => z2 ⟨rfl, g.2⟩), e4'] at this
                    exact ⟨_, _, _, _, _, _, this⟩
                  · exact ⟨_, _, _, _, _, _, c_takesOth hc2 cd cb hne (by decide) (by decide)⟩
              exact ih i' (R + 1) 4 fuC' _ _ _ _ _ _ _ _ g2 (by omega) g3 (Or.inr rfl) hB2 H2
            · right
              rw [q2, q3, Option.bind_some, i0_t]
              exact ⟨i', _, _, _, _, _, _, _, _, _, _, _, _, by omega, rfl, rfl⟩
          · right
            rw [hf, Option.bind_some, if_pos rfl, Option.bind_some, i0_t]
            dsimp only
            by_cases he : i + 1 = t
            · subst he
              obtain ⟨fuC, rfl⟩ : ∃ k, fuC = k + 1 := ⟨fuC - 1, by omega⟩
              rw [c_end ht (by decide), if_neg (by decide)]
              exact ⟨i + 1, _, _, _, _, _, _, _, _, _, _, _, _, by omega, rfl, rfl⟩
            · obtain ⟨fuC, rfl⟩ : ∃ k, fuC = k + 1 := ⟨fuC - 1, by omega⟩
              obtain ⟨hLT2, c2, hc2, hTc2⟩ := hX (i + 1) (by omega)
              rw [c_step ht (by omega), hLT2, hTc2, c_takesP hR hc2, if_neg (hno c2 (by omega) hc2 hTc2), Option.bind_some, i0_t]
              exact ⟨i + 1, _, _, _, _, _, _, _, _, _, _, _, _, by omega, rfl, rfl⟩
        · right
          have hR4' : R = 4 := by omega
          subst hR4'
          rw [if_neg (by decide), Option.bind_some, i0_t, if_pos (show nI 4 = (4 : Int32) from rfl), Option.bind_some, i0_t]
          exact ⟨i, _, _, _, _, _, _, _, _, _, _, _, _, by omega, rfl, rfl⟩
      · right
        obtain ⟨b1, b2, a1, a2, a3, a4, ek⟩ := hB c hc (by omega) hTc hr
        rw [if_neg (show ¬ nI c = (114 : Int32) from fun e => hr (nI_inj (y := 114) (by omega) (by decide) e)), ek, Option.bind_some, i0_t, Option.bind_some, i0_t]
        exact ⟨i, _, _, _, _, _, _, _, _, _, _, _, _, by omega, rfl, rfl⟩
