/-! noting an act, undoing it, keeping and taking again -/
theorem put_at {f g : Nat → Int32} {a n k : Nat} (h : k < n) : fb_put f g a n (a + k) = g k := by
  rw [fb_put_in (by omega) (by omega), Nat.add_sub_cancel_left]
theorem ib_t {α : Type} (a b : α) : (if bI true = (0 : Int32) then a else b) = b := if_neg (by decide)
theorem ib_f {α : Type} (a b : α) : (if bI false = (0 : Int32) then a else b) = a := if_pos rfl
theorem i1_t {α : Type} (a b : α) : (if (1 : Int32) = (0 : Int32) then a else b) = b := if_neg (by decide)
theorem i0_t {α : Type} (a b : α) : (if (0 : Int32) = (0 : Int32) then a else b) = a := if_pos rfl
theorem L_note {R : Nat} {N : Nat → Nat} {pr fr sz lm pc pd qu w book : Nat → Int32} {ask wai fee tak : Int32} {x u : Nat} {pA : Nat → Nat → Nat → Int32} {pV : Nat → Nat → Int32} (hR : R ≤ 4) (hN : ∀ r, r < R → N r ≤ 9) (B : BK R N pr fr sz lm pc pd qu ask wai fee tak w) (P : PastR R N x u pA pV book) :
    ∃ (x' u' : Nat) (pA' : Nat → Nat → Nat → Int32) (pV' : Nat → Nat → Int32) (book' : Nat → Int32),
      fX3_remember (nI x) (nI u) ask wai fee tak pr fr sz lm pc pd qu pA pV = some (nI x', nI u', pA', pV') ∧ fX9_note (nI u) w book = some (nI u', book') ∧ PastR R N x' u' pA' pV' book' ∧ ∀ i, 14 ≤ i → pA' i = pA i ∧ pV' i = pV i := by
  obtain ⟨hx, hu, hj⟩ := P
  refine ⟨(x + 1) % 14, if u = 14 then 14 else u + 1, _, _, if u = 14 then fb_put (fa_fill (fun k => book (k + 229)) book 2977) w (229 * 13) 229 else fb_put book w (229 * u) 229, c_remember hx hu, ?_, ⟨by omega, by by_cases h : u = 14 <;> simp [h] <;> omega, fun j hj2 => ?_⟩, fun i hi => ⟨va_up_ne _ _ (by omega), va_up_ne _ _ (by omega)⟩⟩
  · rw [m_note hu]
    by_cases h : u = 14
    · rw [if_pos h, if_pos h, if_pos h]
    · rw [if_neg h, if_neg h, if_neg h]
  · by_cases h : u = 14
    · subst h
      rw [if_pos rfl] at hj2 ⊢
      rw [if_pos rfl]
      by_cases hl : j = 13
      · subst hl
        rw [show ((x + 1) % 14 + 14 - 14 + 13) % 14 = x by omega, va_up_self, va_up_self]
        exact L_copy hR hN B (fun k hk => put_at hk)
      · rw [va_up_ne _ _ (by omega), va_up_ne _ _ (by omega)]
        have h2 := hj (j + 1) (by omega)
        rw [show ((x + 1) % 14 + 14 - 14 + j) % 14 = (x + 14 - 14 + (j + 1)) % 14 by omega]
        exact BKq_w hR hN h2 (fun k hk => by
          show fb_put _ w (229 * 13) 229 (229 * j + k) = book (229 * (j + 1) + k)
          rw [fb_put_out (by omega), fa_fill_in (by omega)]
          congr 1
          omega)
    · rw [if_neg h] at hj2 ⊢
      rw [if_neg h]
      by_cases hl : j = u
      · subst hl
        rw [show ((x + 1) % 14 + 14 - (j + 1) + j) % 14 = x by omega, va_up_self, va_up_self]
        exact L_copy hR hN B (fun k hk => put_at hk)
      · rw [va_up_ne _ _ (by omega), va_up_ne _ _ (by omega)]
        have h2 := hj j (by omega)
        rw [show ((x + 1) % 14 + 14 - (u + 1) + j) % 14 = (x + 14 - u + j) % 14 by omega]
        exact BKq_w hR hN h2 (fun k hk => by
          show fb_put _ w (229 * u) 229 (229 * j + k) = book (229 * j + k)
          rw [fb_put_out (by omega)])
theorem m_undo27 {page book : Nat → Int32} {d : Nat} {th : Int32} (hd : d < 14) : ∀ fu i, i ≤ 229 → 230 ≤ i + fu → fX9_undo_27 fu th (nI d) (fa_fill (fun k => book (229 * d + k)) page i) book (nI i) = some (nI d, th, nI d, fa_fill (fun k => book (229 * d + k)) page 229) := by
  intro fu
  induction fu with
  | zero => intro i h1 h2; omega
  | succ fu ih =>
    intro i h1 h2
    rw [fX9_undo_27]
    by_cases h : i = 229
    · subst h
      rw [if_pos (show (229 : Int32) ≤ nI 229 from by decide)]
    · have e : (229 : Int32) * nI d + nI i = nI (229 * d + i) := by rw [show (229 : Int32) = nI 229 from rfl, pk_mul, nI_add]
      rw [if_neg (show ¬ (229 : Int32) ≤ nI i from nI_ge (b := 229) (by omega) (by decide)), e, if_neg (nI_in (by omega) (by decide)), if_neg (nI_in (by omega) (by decide)), nI_clamp (by omega), nI_clamp (by omega), fa_fill_succ (fun k => book (229 * d + k)), nI_1]
      exact ih (i + 1) (by omega) (by omega)
theorem O_undo {R : Nat} {N : Nat → Nat} {pr fr sz lm pc pd qu w book : Nat → Int32} {ask wai fee tak : Int32} {x u : Nat} {pA : Nat → Nat → Nat → Int32} {pV : Nat → Nat → Int32} (hR : R ≤ 4) (hN : ∀ r, r < R → N r ≤ 9) (B : BK R N pr fr sz lm pc pd qu ask wai fee tak w) (P : PastR R N x u pA pV book) (th : Int32) :
    ∃ (ans ask' wai' fee' tak' : Int32) (pr' fr' sz' lm' pc' pd' qu' w' : Nat → Int32) (x' u' : Nat),
      fX8_undo ask wai fee tak pr fr sz lm pc pd qu (nI x) (nI u) pA pV = some (ans, ask', wai', fee', tak', pr', fr', sz', lm', pc', pd', qu', nI x', nI u') ∧ fX9_undo th (nI u) w book = some (ans, 0, nI u', w') ∧ BK R N pr' fr' sz' lm' pc' pd' qu' ask' wai' fee' tak' w' ∧ PastR R N x' u' pA pV book := by
  obtain ⟨hx, hu, hj⟩ := id P
  unfold fX8_undo fX9_undo fX3_acts
  rw [Option.bind_some]
  by_cases h : u = 0
  · subst h
    rw [if_pos (show nI 0 = 0 from rfl), if_pos (show nI 0 = 0 from rfl)]
    exact ⟨_, _, _, _, _, _, _, _, _, _, _, _, w, x, 0, rfl, rfl, B, P⟩
  · have hu0 : ¬ nI u = 0 := fun e => h ((eq0 (by omega)).mp e)
    have hl : (if nI x ≤ 0 then fX3_restore_18 (nI x) (nI u) ask wai fee tak pr fr sz lm pc pd qu pA pV 13 else fX3_restore_18 (nI x) (nI u) ask wai fee tak pr fr sz lm pc pd qu pA pV (nI x - 1)) = fX3_restore_18 (nI x) (nI u) ask wai fee tak pr fr sz lm pc pd qu pA pV (nI ((x + 13) % 14)) := by
      by_cases h0 : x = 0
      · subst h0
        rfl
      · rw [if_neg (fun e => h0 ((le0 (by omega)).mp e)), show (1 : Int32) = nI 1 from rfl, sub1 (by omega), show (x + 13) % 14 = x - 1 by omega]
    rw [if_neg hu0, if_neg hu0]
    unfold fX3_restore
    rw [hl]
    unfold fX3_restore_18 fX0_copyFrom
    rw [if_neg (fun e => h ((le0 (by omega)).mp e)), if_pos (show nI ((x + 13) % 14) < (14 : Int32) from nI_lt' (b := 14) (by omega) (by decide)), if_neg (nI_in (by omega) (by decide)), nI_clamp (by omega), Option.bind_some, Option.bind_some, Option.bind_some, show (1 : Int32) = nI 1 from rfl, sub1 (by omega)]
    have h3 := m_undo27 (page := w) (book := book) (d := u - 1) (th := 0) (by omega) FU 0 (by omega) (by have := FU_ge (k := 231) (by decide); omega)
    rw [fa_fill_0] at h3
    have hb := hj (u - 1) (by omega)
    rw [show (x + 14 - u + (u - 1)) % 14 = (x + 13) % 14 by omega] at hb
    refine ⟨_, _, _, _, _, _, _, _, _, _, _, _, _, (x + 13) % 14, u - 1, rfl, h3, L_copy hR hN hb (fun k hk => fa_fill_in hk), by omega, by omega, fun j hj2 => ?_⟩
    rw [show ((x + 13) % 14 + 14 - (u - 1) + j) % 14 = (x + 14 - u + j) % 14 by omega]
    exact hj j (by omega)
def SlotR (R : Nat) (N : Nat → Nat) (pA : Nat → Nat → Nat → Int32) (pV : Nat → Nat → Int32) (fl ik kp : Nat → Int32) : Prop := ∀ i, i < 2 → ∃ b, fl i = bI b ∧ ik i = bI b ∧ (b = true → BKq R N (pA (14 + i)) (pV (14 + i)) (fun k => kp (229 * i + k)))
theorem SlotR_pool {R : Nat} {N : Nat → Nat} {pA pA' : Nat → Nat → Nat → Int32} {pV pV' : Nat → Nat → Int32} {fl ik kp : Nat → Int32} (S : SlotR R N pA pV fl ik kp) (h : ∀ i, 14 ≤ i → pA' i = pA i ∧ pV' i = pV i) : SlotR R N pA' pV' fl ik kp := fun i hi => by
  obtain ⟨b, h1, h2, h3⟩ := S i hi
  refine ⟨b, h1, h2, fun hb => ?_⟩
  rw [(h (14 + i) (by omega)).1, (h (14 + i) (by omega)).2]
  exact h3 hb
theorem PastR_pool {R : Nat} {N : Nat → Nat} {x u : Nat} {pA pA' : Nat → Nat → Nat → Int32} {pV pV' : Nat → Nat → Int32} {book : Nat → Int32} (P : PastR R N x u pA pV book) (h : ∀ i, i < 14 → pA' i = pA i ∧ pV' i = pV i) : PastR R N x u pA' pV' book := by
  obtain ⟨hx, hu, hj⟩ := P
  refine ⟨hx, hu, fun j hj2 => ?_⟩
  rw [(h ((x + 14 - u + j) % 14) (by omega)).1, (h ((x + 14 - u + j) % 14) (by omega)).2]
  exact hj j hj2
theorem m_keep26 {page kp ik : Nat → Int32} {d : Nat} {th : Int32} (hd : d < 2) : ∀ fu i, i ≤ 229 → 230 ≤ i + fu → fX9_keep_26 fu th page (fb_put kp page (229 * d) i) ik (nI d) (nI i) = some (page 6, th, fb_put kp page (229 * d) 229, ik) := by
  intro fu
  induction fu with
  | zero => intro i h1 h2; omega
  | succ fu ih =>
    intro i h1 h2
    rw [fX9_keep_26]
    by_cases h : i = 229
    · subst h
      rw [if_pos (show (229 : Int32) ≤ nI 229 from by decide)]
      rfl
    · have e : (229 : Int32) * nI d + nI i = nI (229 * d + i) := by rw [show (229 : Int32) = nI 229 from rfl, pk_mul, nI_add]
      rw [if_neg (show ¬ (229 : Int32) ≤ nI i from nI_ge (b := 229) (by omega) (by decide)), e, if_neg (nI_in (by omega) (by decide)), if_neg (nI_in (by omega) (by decide)), nI_clamp (by omega), nI_clamp (by omega), fb_put_succ, nI_1]
      exact ih (i + 1) (by omega) (by omega)
theorem m_again31 {page kp ik : Nat → Int32} {d : Nat} {th dg : Int32} (hd : d < 2) : ∀ fu i, i ≤ 229 → 230 ≤ i + fu → fX9_again_31 fu th dg (fa_fill (fun k => kp (229 * d + k)) page i) kp ik (nI d) (nI i) = some (fa_fill (fun k => kp (229 * d + k)) page 229 6, th, 0, fa_fill (fun k => kp (229 * d + k)) page 229) := by
  intro fu
  induction fu with
  | zero => intro i h1 h2; omega
  | succ fu ih =>
    intro i h1 h2
    rw [fX9_again_31]
    by_cases h : i = 229
    · subst h
      rw [if_pos (show (229 : Int32) ≤ nI 229 from by decide)]
      rfl
    · have e : (229 : Int32) * nI d + nI i = nI (229 * d + i) := by rw [show (229 : Int32) = nI 229 from rfl, pk_mul, nI_add]
      rw [if_neg (show ¬ (229 : Int32) ≤ nI i from nI_ge (b := 229) (by omega) (by decide)), e, if_neg (nI_in (by omega) (by decide)), if_neg (nI_in (by omega) (by decide)), nI_clamp (by omega), nI_clamp (by omega), fa_fill_succ (fun k => kp (229 * d + k)), nI_1]
      exact ih (i + 1) (by omega) (by omega)
theorem c_has2 {x : Int32} : fX6_has x = some (bI (inQ x 2)) := c_rgQ
theorem m_in01 (x : Int32) : fX9_in x.toInt64 (0 : Int64) (1 : Int64) = some (bI (inQ x 2)) := m_inQ (R := 2) (by decide)
theorem BK_ask {R : Nat} {N : Nat → Nat} {pr fr sz lm pc pd qu w : Nat → Int32} {ask wai fee tak : Int32} (B : BK R N pr fr sz lm pc pd qu ask wai fee tak w) : ask = w 6 := by
  obtain ⟨a, q, ⟨-, h1, h2⟩, -⟩ := B
  rw [h1, h2]
theorem O_keep {R : Nat} {N : Nat → Nat} {pr fr sz lm pc pd qu w book fl ik kp : Nat → Int32} {ask wai fee tak : Int32} {x u : Nat} {pA : Nat → Nat → Nat → Int32} {pV : Nat → Nat → Int32} (hR : R ≤ 4) (hN : ∀ r, r < R → N r ≤ 9) (B : BK R N pr fr sz lm pc pd qu ask wai fee tak w) (P : PastR R N x u pA pV book) (S : SlotR R N pA pV fl ik kp) (th x1 : Int32) :
    ∃ (ans : Int32) (fl' ik' kp' : Nat → Int32) (pA' : Nat → Nat → Nat → Int32) (pV' : Nat → Nat → Int32),
      fX8_keep ask wai fee tak pr fr sz lm pc pd qu fl pA pV x1 = some (ans, fl', pA', pV') ∧ fX9_keep th w kp ik x1 = some (ans, 0, kp', ik') ∧ PastR R N x u pA' pV' book ∧ SlotR R N pA' pV' fl' ik' kp' := by
  unfold fX8_keep fX9_keep
  rw [c_has2, Option.bind_some, m_in01, Option.bind_some]
  cases h : inQ x1 2 with
  | false =>
    rw [ib_f, ib_f]
    exact ⟨_, fl, ik, kp, pA, pV, rfl, rfl, P, S⟩
  | true =>
    obtain ⟨i, hi, rfl⟩ := inQ_at (by decide) h
    rw [ib_t, ib_t]
    unfold fX6_put fX0_copyFrom fX0_asked
    rw [c_has2, h, Option.bind_some, ib_t, if_neg (nI_in (by omega) (by decide)), if_neg (nI_in (by omega) (by decide)), Option.bind_some, if_neg (nI_in (by omega) (by decide)), Option.bind_some, Option.bind_some, if_neg (nI_in (by omega) (by decide)), nI_clamp (by omega)]
    have h3 := m_keep26 (page := w) (kp := kp) (ik := upd ik i (vp_nar .boolean 1)) (d := i) (th := 0) (by omega) FU 0 (by omega) (by have := FU_ge (k := 231) (by decide); omega)
    rw [fb_put_0, ← BK_ask B] at h3
    refine ⟨_, _, _, _, _, _, rfl, h3, PastR_pool P (fun j hj => ⟨va_up_ne _ _ (by omega), va_up_ne _ _ (by omega)⟩), fun j hj => ?_⟩
    by_cases hji : j = i
    · subst hji
      refine ⟨true, upd_at _ _ _, upd_at _ _ _, fun _ => ?_⟩
      dsimp only
      rw [va_up_self, va_up_self]
      exact L_copy hR hN B (fun k hk => put_at hk)
    · obtain ⟨b, h1, h2, h3⟩ := S j hj
      refine ⟨b, (upd_ne hji).trans h1, (upd_ne hji).trans h2, fun hb => ?_⟩
      dsimp only
      rw [va_up_ne _ _ (by omega), va_up_ne _ _ (by omega)]
      exact BKq_w hR hN (h3 hb) (fun k hk => by
          show fb_put _ w (229 * i) 229 (229 * j + k) = kp (229 * j + k)
          rw [fb_put_out (by omega)])
theorem O_again {R : Nat} {N : Nat → Nat} {pr fr sz lm pc pd qu w book fl ik kp : Nat → Int32} {ask wai fee tak : Int32} {x u : Nat} {pA : Nat → Nat → Nat → Int32} {pV : Nat → Nat → Int32} (hR : R ≤ 4) (hN : ∀ r, r < R → N r ≤ 9) (B : BK R N pr fr sz lm pc pd qu ask wai fee tak w) (P : PastR R N x u pA pV book) (S : SlotR R N pA pV fl ik kp) (th x1 : Int32) :
    ∃ (ans ask' wai' fee' tak' : Int32) (pr' fr' sz' lm' pc' pd' qu' w' : Nat → Int32) (u' : Nat),
      fX8_again ask wai fee tak pr fr sz lm pc pd qu (nI u) fl pA pV x1 = some (ans, ask', wai', fee', tak', pr', fr', sz', lm', pc', pd', qu', nI u') ∧ fX9_again th (nI u) w kp ik x1 = some (ans, 0, nI u', w') ∧ BK R N pr' fr' sz' lm' pc' pd' qu' ask' wai' fee' tak' w' ∧ PastR R N x u' pA pV book := by
  unfold fX8_again fX9_again
  rw [c_has2, Option.bind_some, m_in01, Option.bind_some]
  cases h : inQ x1 2 with
  | false =>
    rw [ib_f, ib_f]
    exact ⟨_, _, _, _, _, _, _, _, _, _, _, _, w, u, rfl, rfl, B, P⟩
  | true =>
    obtain ⟨i, hi, rfl⟩ := inQ_at (by decide) h
    obtain ⟨b, h1, h2, hb⟩ := S i hi
    rw [ib_t, ib_t, if_neg (nI_in (by omega) (by decide))]
    unfold fX6_restore fX6_isFilled fX0_copyFrom fX0_asked fX3_clear
    rw [c_has2, h, Option.bind_some, ib_t, if_neg (nI_in (by omega) (by decide)), nI_clamp (by omega), h1, h2]
    cases b with
    | false =>
      rw [ib_f, ib_f, Option.bind_some, i0_t]
      exact ⟨_, _, _, _, _, _, _, _, _, _, _, _, w, u, rfl, rfl, B, P⟩
    | true =>
      rw [ib_t, ib_t, Option.bind_some, i1_t, Option.bind_some, i1_t, if_neg (show ¬ (nI i < 0 ∨ 2 ≤ i) from (grd2 hi (by decide)).mp), Option.bind_some, Option.bind_some, Option.bind_some, Option.bind_some]
      have h3 := m_again31 (page := w) (kp := kp) (ik := ik) (d := i) (th := 0) (dg := nI u) (by omega) FU 0 (by omega) (by have := FU_ge (k := 231) (by decide); omega)
      rw [fa_fill_0] at h3
      have B2 := L_copy (o0 := pr) (o1 := fr) (o2 := sz) (o3 := lm) (o4 := pc) (o5 := pd) (o6 := qu) hR hN (hb rfl) (w' := fa_fill (fun k => kp (229 * i + k)) w 229) (fun k hk => fa_fill_in hk)
      exact ⟨_, _, _, _, _, _, _, _, _, _, _, _, _, 0, rfl, by rw [BK_ask B2]; exact h3, B2, P.1, by omega, fun j hj => by omega⟩
