/-! fault and hall -/
def HInv (R x u : Nat) (se jo vi mn am vm pr fr sz lm pc pd qu : Nat → Int32) (ask wai fee tak : Int32) (w : Nat → Int32) (pA : Nat → Nat → Nat → Int32) (pV : Nat → Nat → Int32) (book fl ik kp : Nat → Int32) : Prop :=
  ∃ (N : Nat → Nat) (al : Nat → Nat → Bool) (vw : Nat → Nat → Nat), HallP R N al vw se jo vi ∧ HallM R N al vw mn am vm ∧ HLast R N al ∧ BK R N pr fr sz lm pc pd qu ask wai fee tak w ∧ PastR R N x u pA pV book ∧ SlotR R N pA pV fl ik kp
theorem m_hall12 {t : Nat} {pl rr : Int32} {T mm mv ma mp : Nat → Int32} : ∀ fu i, i ≤ 229 → 230 ≤ i + fu → fX9_readHall_12 fu (nI t) pl rr T mm mv ma (fa_fill (fun _ => 0) mp i) (nI i) = (if nI t = 0 then some (0, pl, rr, mm, mv, ma, fa_fill (fun _ => 0) mp 229) else (if T 0 = (72 : Int32) then fX9_readHall_57 FU (nI t) (1 : Int32) rr T mm mv ma (fa_fill (fun _ => 0) mp 229) else some (0, pl, rr, mm, mv, ma, fa_fill (fun _ => 0) mp 229))) := by
  intro fu
  induction fu with
  | zero => intro i h1 h2; omega
  | succ fu ih =>
    intro i h1 h2
    rw [fX9_readHall_12]
    by_cases h : i = 229
    · subst h
      rw [if_pos (show (229 : Int32) ≤ nI 229 from by decide)]
      rfl
    · rw [if_neg (show ¬ (229 : Int32) ≤ nI i from nI_ge (b := 229) (by omega) (by decide)), if_neg (nI_in (by omega) (by decide)), nI_clamp (by omega), fa_fill_succ (fun _ => 0), nI_1]
      exact ih (i + 1) (by omega) (by omega)
theorem m_readHall {t : Nat} {T mm mv ma mp : Nat → Int32} (p0 q0 : Int32) : fX9_readHall (nI t) p0 q0 T mm mv ma mp = (if nI t = 0 then some (0, 0, 0, mm, mv, ma, fa_fill (fun _ => 0) mp 229) else (if T 0 = (72 : Int32) then fX9_readHall_57 FU (nI t) (1 : Int32) 0 T mm mv ma (fa_fill (fun _ => 0) mp 229) else some (0, 0, 0, mm, mv, ma, fa_fill (fun _ => 0) mp 229))) := by
  have h := m_hall12 (t := t) (pl := 0) (rr := 0) (T := T) (mm := mm) (mv := mv) (ma := ma) (mp := mp) FU 0 (by omega) (by have := FU_ge (k := 231) (by decide); omega)
  rw [fa_fill_0] at h
  exact h
theorem L_read {t : Nat} {L T : Nat → Int32} (X : TextR t L T) (cp cs cj cv mm mv ma mp : Nat → Int32) (r0 a0 p0 q0 : Int32) :
    (∃ (R' aw' i' : Nat) (cp' cs' cj' cv' mm' mv' ma' mp' : Nat → Int32), fX4_readFrom r0 a0 cp cs cj cv (nI t) L = some (-9, nI R', nI aw', cp', cs', cj', cv') ∧ fX9_readHall (nI t) p0 q0 T mm mv ma mp = some (-9, nI i', nI R', mm', mv', ma', mp') ∧ HR R' cp' cs' cj' cv' mm' mv' ma' mp') ∨
    (∃ (k : Nat) (b1 b2 b3 b4 : Int32) (e1 e2 e3 e4 e5 e6 e7 e8 : Nat → Int32), k ≤ 80 ∧ fX4_readFrom r0 a0 cp cs cj cv (nI t) L = some (nI k, b1, b2, e1, e2, e3, e4) ∧ fX9_readHall (nI t) p0 q0 T mm mv ma mp = some (nI k, b3, b4, e5, e6, e7, e8)) := by
  obtain ⟨ht, hX⟩ := id X
  rw [m_readHall]
  unfold fX4_readFrom
  obtain ⟨fu, hfu⟩ : ∃ k, FU = k + 1 := ⟨4999, rfl⟩
  have hfu2 : 4999 ≤ fu := by
    have : FU = 5000 := rfl
    omega
  by_cases h0 : t = 0
  · right
    subst h0
    have hc := c_end (fu := fu) (t := 0) (rr := 0) (aw := 0) (cp := cp) (cs := cs) (cj := cj) (cv := cv) (L := L) (by decide) (by decide)
    rw [if_neg (by decide)] at hc
    rw [if_pos (show nI 0 = (0 : Int32) from rfl), hfu]
    exact ⟨0, _, _, _, _, _, _, _, _, _, _, _, _, by omega, hc, rfl⟩
  · rw [if_neg (fun e => h0 ((eq0 (by omega)).mp e))]
    obtain ⟨hLT, c, hc, hTc⟩ := hX 0 (by omega)
    have hLc : L 0 = nI c := hLT.trans hTc
    have hstep := c_step (fu := fu) (t := t) (i := 0) (rr := 0) (aw := 0) (cp := cp) (cs := cs) (cj := cj) (cv := cv) (L := L) ht (by omega)
    rw [hLc] at hstep
    rw [show fX4_readFrom_12 FU (0 : Int32) (0 : Int32) cp cs cj cv (nI t) L (0 : Int32) = fX4_readFrom_12 (fu + 1) (0 : Int32) (0 : Int32) cp cs cj cv (nI t) L (nI 0) from by rw [hfu]; rfl, hstep, hTc]
    by_cases h72 : c = 72
    · subst h72
      rw [if_pos (show nI 72 = (72 : Int32) from rfl)]
      have htk : fX4_takes (0 : Int32) (0 : Int32) cp cs cj cv (nI 72) = some (1, 0, 1, cp, cs, cj, cv) := by
        unfold fX4_takes fX4_takesHead
        rw [if_pos (show nI 72 = (72 : Int32) from rfl), i0_t, Option.bind_some, if_neg bok1]
      rw [htk, Option.bind_some, i1_t]
      have HR0 : HR 0 cp cs cj cv mm mv ma (fa_fill (fun _ => 0) mp 229) := ⟨by omega, fun r hr => by omega, fun j _ h2 => fa_fill_in h2⟩
      have hB : Bnd t 1 0 1 T cp cs cj cv := fun c2 hc2 hi2 hT2 hne => by
        by_cases cd : 48 ≤ c2 ∧ c2 ≤ 57
        · refine ⟨_, _, _, _, _, _, show fX4_takes (nI 0) (nI 1) cp cs cj cv (nI c2) = some (0, nI 0, nI 1, cp, cs, cj, cv) from ?_⟩
          have ne : ∀ k, k < 1000 → k ≠ c2 → ¬ nI c2 = nI k := fun k g1 g2 e => g2 (nI_inj (by omega) g1 e).symm
          unfold fX4_takes fX4_takesDigit
          rw [if_neg (show ¬ nI c2 = (72 : Int32) from ne 72 (by decide) (by omega)), if_neg (show ¬ nI c2 = (114 : Int32) from ne 114 (by decide) (by omega)), if_neg (show ¬ nI c2 = (124 : Int32) from ne 124 (by decide) (by omega)), if_neg (show ¬ nI c2 < (48 : Int32) from nI_nlt (b := 48) (by omega) (by omega)), if_neg (show ¬ (57 : Int32) < nI c2 from nI_nlt (a := 57) (by omega) (by decide))]
          rw [show fX4_hasRow (nI 0) (nI 0 - (1 : Int32)) = some 0 from by decide, Option.bind_some, i0_t, Option.bind_some, i0_t]
        · by_cases cb : c2 = 124
          · subst cb
            refine ⟨_, _, _, _, _, _, show fX4_takes (nI 0) (nI 1) cp cs cj cv (nI 124) = some (0, nI 0, nI 1, cp, cs, cj, cv) from ?_⟩
            unfold fX4_takes fX4_takesAisle
            rw [if_neg (show ¬ nI 124 = (72 : Int32) by decide), if_neg (show ¬ nI 124 = (114 : Int32) by decide), if_pos (show nI 124 = (124 : Int32) from rfl), if_neg (show ¬ nI 1 = (4 : Int32) by decide), Option.bind_some, if_neg bok0]
          · exact ⟨_, _, _, _, _, _, c_takesOth hc2 cd cb hne (by decide) (by decide)⟩
      have hL := L_text X FU 1 0 1 fu cp cs cj cv mm mv ma (fa_fill (fun _ => 0) mp 229) (by omega) (by have := FU_ge (k := 100) (by decide); omega) (by omega) (Or.inl rfl) hB HR0
      exact hL
    · right
      rw [if_neg (show ¬ nI c = (72 : Int32) from fun e => h72 (nI_inj (y := 72) (by omega) (by decide) e))]
      have htk : ∃ b1 b2 a1 a2 a3 a4, fX4_takes (0 : Int32) (0 : Int32) cp cs cj cv (nI c) = some (0, b1, b2, a1, a2, a3, a4) := by
        have ne : ∀ k, k < 1000 → k ≠ c → ¬ nI c = nI k := fun k g1 g2 e => g2 (nI_inj (by omega) g1 e).symm
        refine ⟨0, 0, cp, cs, cj, cv, ?_⟩
        unfold fX4_takes
        rw [if_neg (show ¬ nI c = (72 : Int32) from ne 72 (by decide) (fun e => h72 e.symm))]
        by_cases hr : c = 114
        · subst hr
          unfold fX4_takesRow
          rw [if_pos (show nI 114 = (114 : Int32) from rfl), if_neg (show ¬ (0 : Int32) = (1 : Int32) by decide), if_neg (show ¬ (0 : Int32) = (4 : Int32) by decide), Option.bind_some, if_neg bok0]
        · rw [if_neg (show ¬ nI c = (114 : Int32) from ne 114 (by decide) (fun e => hr e.symm))]
          by_cases hb : c = 124
          · subst hb
            unfold fX4_takesAisle
            rw [if_pos (show nI 124 = (124 : Int32) from rfl), if_neg (show ¬ (0 : Int32) = (4 : Int32) by decide), Option.bind_some, if_neg bok0]
          · rw [if_neg (show ¬ nI c = (124 : Int32) from ne 124 (by decide) (fun e => hb e.symm))]
            by_cases g : c < 48
            · rw [if_pos (show nI c < (48 : Int32) from nI_lt' (b := 48) g (by decide))]
            · rw [if_neg (show ¬ nI c < (48 : Int32) from nI_nlt (b := 48) (by omega) (by omega))]
              by_cases g2 : 57 < c
              · rw [if_pos (show (57 : Int32) < nI c from nI_lt' (a := 57) (by omega) (by omega))]
              · rw [if_neg (show ¬ (57 : Int32) < nI c from nI_nlt (a := 57) (by omega) (by decide))]
                unfold fX4_takesDigit
                rw [show fX4_hasRow (0 : Int32) ((0 : Int32) - (1 : Int32)) = some 0 from by decide, Option.bind_some, i0_t, Option.bind_some, i0_t]
      obtain ⟨b1, b2, a1, a2, a3, a4, ek⟩ := htk
      rw [ek, Option.bind_some, i0_t]
      exact ⟨0, _, _, _, _, _, _, _, _, _, _, _, _, by omega, rfl, rfl⟩
theorem O_fault {t : Nat} {L T : Nat → Int32} (X : TextR t L T) (cp cs cj cv mm mv ma mp : Nat → Int32) (r0 a0 th p0 q0 : Int32) :
    ∃ (ans r1 a1 p1 q1 : Int32) (cp' cs' cj' cv' mm' mv' ma' mp' : Nat → Int32), fX8_fault (nI t) L r0 a0 cp cs cj cv = some (ans, r1, a1, cp', cs', cj', cv') ∧ fX9_fault th (nI t) p0 q0 T mm mv ma mp = some (ans, 0, p1, q1, mm', mv', ma', mp') := by
  unfold fX8_fault fX9_fault
  rcases L_read X cp cs cj cv mm mv ma mp r0 a0 p0 q0 with ⟨R', aw', i', cp', cs', cj', cv', mm', mv', ma', mp', h1, h2, -⟩ | ⟨k, b1, b2, b3, b4, e1, e2, e3, e4, e5, e6, e7, e8, -, h1, h2⟩
  · rw [h1, h2, Option.bind_some, Option.bind_some]
    exact ⟨_, _, _, _, _, _, _, _, _, _, _, _, _, rfl, rfl⟩
  · rw [h1, h2, Option.bind_some, Option.bind_some]
    exact ⟨_, _, _, _, _, _, _, _, _, _, _, _, _, rfl, rfl⟩
theorem span0 : ∀ n, n ≤ 9 → ((((1 : Int32) <<< (nI n &&& 31)) - (1 : Int32)) <<< ((0 : Int32) &&& 31)) = Mk (fun i => decide (i < n)) := by decide +kernel
def opP (R : Nat) (cp : Nat → Int32) (r : Nat) : Int32 := if r < R then cp r else 0
def opF (R : Nat) (N : Nat → Nat) (r : Nat) : Int32 := if r < R then Mk (fun i => decide (i < N r)) else 0
theorem c_openLoop {R : Nat} {N : Nat → Nat} {a w f t : Int32} {cp cs pr fr : Nat → Int32} (hR : R ≤ 4) (hcs : ∀ r, r < R → cs r = nI (N r) ∧ N r ≤ 9) : ∀ fu i, i ≤ 4 → 5 ≤ i + fu → fX0_open_2 fu a w f t (fa_fill (opP R cp) pr i) (fa_fill (opF R N) fr i) (nI R) cp cs (nI i) = some (0, 0, 0, 0, fa_fill (opP R cp) pr 4, fa_fill (opF R N) fr 4) := by
  intro fu
  induction fu with
  | zero => intro i h1 h2; omega
  | succ fu ih =>
    intro i h1 h2
    rw [fX0_open_2]
    by_cases h : i = 4
    · subst h
      rw [if_pos (show (4 : Int32) ≤ nI 4 from by decide)]
    · have hp : fX4_firstPrice (nI R) cp (nI i) = some (opP R cp i) := by
        unfold fX4_firstPrice opP
        rw [c_hasRow hR (by omega), Option.bind_some]
        by_cases g : i < R
        · rw [decide_eq_true g, ib_t, if_neg (nI_in (by omega) (by decide)), nI_clamp (by omega), if_pos g]
        · rw [decide_eq_false g, ib_f, if_neg g]
      have hs : ((fX4_seatsIn (nI R) cs (nI i)).bind fun q4 => fX8_span (0 : Int32) q4) = some (opF R N i) := by
        unfold opF
        by_cases g : i < R
        · rw [c_seatsIn hR g, (hcs i g).1, Option.bind_some, if_pos g]
          unfold fX8_span
          rw [span0 _ (hcs i g).2]
        · unfold fX4_seatsIn
          rw [c_hasRow hR (by omega), decide_eq_false g, Option.bind_some, ib_f, Option.bind_some, if_neg g]
          decide
      obtain ⟨q4, e4, e6⟩ := pf_b hs
      rw [if_neg (show ¬ (4 : Int32) ≤ nI i from nI_ge (b := 4) (by omega) (by decide)), hp, Option.bind_some, if_neg (nI_in (by omega) (by decide)), e4, Option.bind_some, e6, Option.bind_some, if_neg (nI_in (by omega) (by decide)), nI_clamp (by omega), fa_fill_succ (opP R cp), fa_fill_succ (opF R N), nI_1]
      exact ih (i + 1) (by omega) (by omega)
theorem c_open {R : Nat} {N : Nat → Nat} {a w f t : Int32} {cp cs pr fr : Nat → Int32} (hR : R ≤ 4) (hcs : ∀ r, r < R → cs r = nI (N r) ∧ N r ≤ 9) : fX0_open a w f t pr fr (nI R) cp cs = some (0, 0, 0, 0, fa_fill (opP R cp) pr 4, fa_fill (opF R N) fr 4) := by
  have h := c_openLoop (a := a) (w := w) (f := f) (t := t) (cp := cp) (cs := cs) (pr := pr) (fr := fr) hR hcs FU 0 (by omega) (by have := FU_ge (k := 10) (by decide); omega)
  rw [fa_fill_0, fa_fill_0] at h
  exact h
theorem c_clear6 (fl : Nat → Int32) : ∃ fl', fX6_clear fl = some fl' ∧ fl' 0 = bI false ∧ fl' 1 = bI false := by
  refine ⟨upd (upd fl 0 (vp_nar .boolean 0)) 1 (vp_nar .boolean 0), ?_, rfl, rfl⟩
  unfold fX6_clear
  rw [show FU = 4997 + 1 + 1 + 1 from rfl, fX6_clear_2, if_neg (by decide), if_neg (by decide), fX6_clear_2, if_neg (by decide), if_neg (by decide), fX6_clear_2, if_pos (by decide)]
  rfl
theorem m_hall52 {th t pl rw_ rr dg : Int32} {T mn vm am rm rv ra rp w ik : Nat → Int32} : ∀ fu i, i ≤ 36 → 37 ≤ i + fu → fX9_hall_52 fu th t pl rw_ rr dg T mn (fa_fill rv vm i) (fa_fill (fun k => vp_nar .boolean (ra k)) am i) rm rv ra rp w ik (nI i) = some (rw_, th, pl, rw_, rr, 0, mn, fa_fill rv vm 36, fa_fill (fun k => vp_nar .boolean (ra k)) am 36, rm, rv, ra, rp, fa_fill rp w 229, upd (upd ik 0 (vp_nar .boolean 0)) 1 (vp_nar .boolean 0)) := by
  intro fu
  induction fu with
  | zero => intro i h1 h2; omega
  | succ fu ih =>
    intro i h1 h2
    rw [fX9_hall_52]
    by_cases h : i = 36
    · subst h
      rw [if_pos (show (36 : Int32) ≤ nI 36 from by decide), m_copy, Option.bind_some]
      rfl
    · rw [if_neg (show ¬ (36 : Int32) ≤ nI i from nI_ge (b := 36) (by omega) (by decide)), if_neg (nI_in (by omega) (by decide)), if_neg (nI_in (by omega) (by decide)), if_neg (nI_in (by omega) (by decide)), if_neg (nI_in (by omega) (by decide)), nI_clamp (by omega), fa_fill_succ rv, fa_fill_succ (fun k => vp_nar .boolean (ra k)), nI_1]
      exact ih (i + 1) (by omega) (by omega)
theorem m_hall27 {th t pl rw_ rr dg : Int32} {T mn vm am rm rv ra rp w ik : Nat → Int32} : ∀ fu i, i ≤ 4 → 5 ≤ i + fu → fX9_hall_27 fu th t pl rw_ rr dg T (fa_fill rm mn i) vm am rm rv ra rp w ik (nI i) = some (rw_, th, pl, rw_, rr, 0, fa_fill rm mn 4, fa_fill rv vm 36, fa_fill (fun k => vp_nar .boolean (ra k)) am 36, rm, rv, ra, rp, fa_fill rp w 229, upd (upd ik 0 (vp_nar .boolean 0)) 1 (vp_nar .boolean 0)) := by
  intro fu
  induction fu with
  | zero => intro i h1 h2; omega
  | succ fu ih =>
    intro i h1 h2
    rw [fX9_hall_27]
    by_cases h : i = 4
    · subst h
      rw [if_pos (show (4 : Int32) ≤ nI 4 from by decide)]
      have h := m_hall52 (th := th) (t := t) (pl := pl) (rw_ := rw_) (rr := rr) (dg := dg) (T := T) (mn := fa_fill rm mn 4) (vm := vm) (am := am) (rm := rm) (rv := rv) (ra := ra) (rp := rp) (w := w) (ik := ik) FU 0 (by omega) (by have := FU_ge (k := 50) (by decide); omega)
      rw [fa_fill_0, fa_fill_0] at h
      exact h
    · rw [if_neg (show ¬ (4 : Int32) ≤ nI i from nI_ge (b := 4) (by omega) (by decide)), if_neg (nI_in (by omega) (by decide)), if_neg (nI_in (by omega) (by decide)), nI_clamp (by omega), fa_fill_succ rm, nI_1]
      exact ih (i + 1) (by omega) (by omega)
theorem nar_bI (b : Bool) : vp_nar .boolean (bI b) = bI b := by cases b <;> rfl
/-- a hall that was read, as both sides hold it, with nobody in it -/
theorem HInv_new {R x : Nat} {cp cs cj cv mm mv ma mp pr fr sz lm pc pd qu mn am vm w : Nat → Int32} {pA : Nat → Nat → Nat → Int32} {pV : Nat → Nat → Int32} {book fl ik kp : Nat → Int32} {N : Nat → Nat} (hx : x < 14) (H : HR R cp cs cj cv mm mv ma mp) (hNm : ∀ r, r < R → mm r = nI (N r) ∧ N r ≤ 9) (hfl : fl 0 = bI false ∧ fl 1 = bI false) :
    HInv R x 0 cs cj cv (fa_fill mm mn 4) (fa_fill (fun k => vp_nar .boolean (ma k)) am 36) (fa_fill mv vm 36) (fa_fill (opP R cp) pr 4) (fa_fill (opF R N) fr 4) sz lm pc pd qu 0 0 0 0 (fa_fill mp w 229) pA pV book fl (upd (upd ik 0 (vp_nar .boolean 0)) 1 (vp_nar .boolean 0)) kp := by
  obtain ⟨hR, hrow, hz⟩ := H
  have key : ∀ r, r < R → 1 ≤ N r ∧ RowR r (N r) cp cs cj cv mm mv ma mp := fun r hr => by
    obtain ⟨n, hn⟩ := hrow r hr
    have e : n = N r := nI_inj (by have := hn.2.1; omega) (by have := (hNm r hr).2; omega) (hn.2.2.1.symm.trans (hNm r hr).1)
    subst e
    exact ⟨hn.1, hn⟩
  have hz' : ∀ j, R ≤ j → j < 229 → fa_fill mp w 229 j = 0 := fun j h1 h2 => (fa_fill_in h2).trans (hz j h1 h2)
  refine ⟨N, fun r k => decide (¬ ma (9 * r + k) = 0), fun r k => if (mv (9 * r + k)).toNatClampNeg ≤ 9 then (mv (9 * r + k)).toNatClampNeg else 0, ⟨hR, fun j k => by dsimp only; split <;> omega, fun r hr => ?_⟩, ⟨hR, fun j k => by dsimp only; split <;> omega, fun r hr => ?_⟩, fun r hr k hk => ?_, ⟨0, 0, ?_⟩, ⟨hx, by omega, fun j hj => by omega⟩, fun i hi => ⟨false, ?_, ?_, fun h => by cases h⟩⟩
  · obtain ⟨n1, n1', n9, -, h2, -, h4, h5, h6⟩ := key r hr
    refine ⟨⟨n1, n9⟩, h2, ?_, fun k hk => ?_⟩
    · rw [h5]
      refine Mk_cong (fun k _ => ?_)
      unfold JA
      by_cases g : ma (9 * r + k) = 0
      · simp [g]
      · simp [g]
    · obtain ⟨e1, ⟨v, v9, e2⟩, -⟩ := h4 k hk
      dsimp only
      rw [e1, e2, nI_clamp (by omega), if_pos v9]
  · obtain ⟨n1, n1', n9, h1, -, -, h4, -, -⟩ := key r hr
    refine ⟨⟨n1, n9⟩, (fa_fill_in (by omega)).trans h1, fun k hk => ?_, fun k hk => ?_⟩
    · obtain ⟨-, -, b, hb⟩ := h4 k hk
      rw [fa_fill_in (by omega)]
      dsimp only
      rw [hb, nar_bI]
      cases b <;> rfl
    · obtain ⟨-, ⟨v, v9, e2⟩, -⟩ := h4 k hk
      dsimp only
      rw [fa_fill_in (by omega), e2, nI_clamp (by omega), if_pos v9]
  · obtain ⟨-, -, -, -, -, -, -, -, h6⟩ := key r hr
    dsimp only
    rw [h6 k hk]
    decide
  · refine ⟨⟨by omega, rfl, ?_⟩, fun p h1 h2 => by omega, fun p h1 h2 => by omega, fun r hr s hs => ?_, fun r hr => ?_, ⟨fun r hr => ?_, fun r h1 h2 => ?_⟩, ⟨?_, ?_⟩, ⟨by omega, by omega, rfl, ?_⟩, ⟨fun j hj => by omega, fun t ht => by omega⟩, fun x hx => by omega, fun x y hx => by omega⟩
    · exact hz' 6 (by omega) (by omega)
    · left
      have := (hNm r hr).2
      exact hz' _ (by omega) (by omega)
    · obtain ⟨-, -, -, -, -, ⟨p, p1, p9, e1, e2⟩, -⟩ := key r hr
      rw [fa_fill_in (by omega), fa_fill_in (by omega)]
      unfold opP
      rw [if_pos hr, e1, e2]
      exact ⟨rfl, p, p1, p9, rfl⟩
    · have n9 := (hNm r hr).2
      rw [fa_fill_in (by omega)]
      unfold opF
      rw [if_pos hr]
      refine Mk_cong (fun k hk => ?_)
      unfold FA frW
      by_cases g : k < N r
      · rw [decide_eq_true g, hz' _ (by omega) (by omega)]
        decide
      · rw [decide_eq_false g, Bool.false_and]
    · rw [fa_fill_in (by omega)]
      unfold opF
      rw [if_neg (by omega)]
    · exact (hz' 4 (by omega) (by omega)).symm
    · exact (hz' 5 (by omega) (by omega)).symm
    · exact hz' 7 (by omega) (by omega)
  · rcases (show i = 0 ∨ i = 1 by omega) with rfl | rfl
    · exact hfl.1
    · exact hfl.2
  · rcases (show i = 0 ∨ i = 1 by omega) with rfl | rfl <;> rfl
theorem O_hall {t : Nat} {L T : Nat → Int32} (X : TextR t L T) {R x u : Nat} {pl_p se jo vi mn am vm pr fr sz lm pc pd qu : Nat → Int32} {ask wai fee tak : Int32} {w : Nat → Int32} {pA : Nat → Nat → Nat → Int32} {pV : Nat → Nat → Int32} {book fl ik kp : Nat → Int32} (I : HInv R x u se jo vi mn am vm pr fr sz lm pc pd qu ask wai fee tak w pA pV book fl ik kp) (sp ss sj sv mm mv ma mp : Nat → Int32) (r0 a0 aw th p0 q0 : Int32) :
    ∃ (ans r1 a1 aw' p1 q1 ask' wai' fee' tak' : Int32) (R' u' : Nat) (sp' ss' sj' sv' mm' mv' ma' mp' pp' se' jo' vi' mn' am' vm' pr' fr' w' fl' ik' : Nat → Int32),
      fX8_hall (nI t) L r0 a0 sp ss sj sv (nI R) aw pl_p se jo vi ask wai fee tak pr fr (nI u) fl = some (ans, r1, a1, sp', ss', sj', sv', nI R', aw', pp', se', jo', vi', ask', wai', fee', tak', pr', fr', nI u', fl') ∧
      fX9_hall th (nI t) p0 (nI R) q0 (nI u) T mn vm am mm mv ma mp w ik = some (ans, 0, p1, nI R', q1, nI u', mn', vm', am', mm', mv', ma', mp', w', ik') ∧
      HInv R' x u' se' jo' vi' mn' am' vm' pr' fr' sz lm pc pd qu ask' wai' fee' tak' w' pA pV book fl' ik' kp := by
  have hx : x < 14 := by
    obtain ⟨N, al, vw, -, -, -, -, P, -⟩ := I
    exact P.1
  unfold fX8_hall fX9_hall
  rcases L_read X sp ss sj sv mm mv ma mp r0 a0 p0 q0 with ⟨R', aw', i', cp', cs', cj', cv', mm', mv', ma', mp', h1, h2, hH⟩ | ⟨k, b1, b2, b3, b4, e1, e2, e3, e4, e5, e6, e7, e8, hk, h1, h2⟩
  · rcases L_read X pl_p se jo vi mm mv ma mp (nI R) aw p0 q0 with ⟨R2, aw2, i2, cp2, cs2, cj2, cv2, mm2, mv2, ma2, mp2, g1, g2, gH⟩ | ⟨k, b1, b2, b3, b4, e1, e2, e3, e4, e5, e6, e7, e8, hk, g1, g2⟩
    · rw [h2] at g2
      have q2 := Option.some.inj g2
      have hRR : R' = R2 := nI_inj (by have := hH.1; omega) (by have := gH.1; omega) (congrArg (fun z => z.2.2.1) q2)
      subst hRR
      have em : mm' = mm2 := congrArg (fun z => z.2.2.2.1) q2
      have ev : mv' = mv2 := congrArg (fun z => z.2.2.2.2.1) q2
      have ea : ma' = ma2 := congrArg (fun z => z.2.2.2.2.2.1) q2
      have ep : mp' = mp2 := congrArg (fun z => z.2.2.2.2.2.2) q2
      subst em ev ea ep
      have hR4 := gH.1
      obtain ⟨N, hN⟩ : ∃ N : Nat → Nat, ∀ r, r < R' → mm' r = nI (N r) ∧ cs2 r = nI (N r) ∧ N r ≤ 9 := by
        refine ⟨fun r => (mm' r).toNatClampNeg, fun r hr => ?_⟩
        obtain ⟨n, hn⟩ := gH.2.1 r hr
        have hc : (mm' r).toNatClampNeg = n := by rw [hn.2.2.1, nI_clamp (by have := hn.2.1; omega)]
        dsimp only
        rw [hc]
        exact ⟨hn.2.2.1, hn.2.2.2.1, hn.2.1⟩
      obtain ⟨fl', hf1, hf2⟩ := c_clear6 fl
      have hm := m_hall27 (th := 0) (t := nI t) (pl := nI i') (rw_ := nI R') (rr := nI R') (dg := nI u) (T := T) (mn := mn) (vm := vm) (am := am) (rm := mm') (rv := mv') (ra := ma') (rp := mp') (w := w) (ik := ik) FU 0 (by omega) (by have := FU_ge (k := 10) (by decide); omega)
      rw [fa_fill_0] at hm
      rw [h1, h2, Option.bind_some, Option.bind_some, if_pos rfl, if_pos rfl, g1, Option.bind_some]
      dsimp only
      rw [c_open (N := N) hR4 (fun r hr => ⟨(hN r hr).2.1, (hN r hr).2.2⟩), Option.bind_some, show fX3_clear (nI u) = some 0 from rfl, Option.bind_some, hf1, Option.bind_some, show fX4_rows (nI R') = some (nI R') from rfl, Option.bind_some]
      have e0 : (0 : Int32) = nI 0 := rfl
      refine ⟨nI R', _, _, _, _, _, 0, 0, 0, 0, R', 0, _, _, _, _, _, _, _, _, _, _, _, _, _, _, _, _, _, _, _, _, rfl, hm, ?_⟩
      exact HInv_new hx gH (fun r hr => ⟨(hN r hr).1, (hN r hr).2.2⟩) hf2
    · rw [h2] at g2
      have := congrArg (fun q => (q.getD (0, 0, 0, mm, mm, mm, mm)).1) g2
      exact absurd this.symm (m9 (by omega))
  · rw [h1, h2, Option.bind_some, Option.bind_some, if_neg (m9 (by omega)), if_neg (m9 (by omega))]
    exact ⟨_, _, _, _, _, _, _, _, _, _, R, u, _, _, _, _, _, _, _, _, _, _, _, _, _, _, _, _, _, _, _, _, rfl, rfl, I⟩
