/-! bookings copied: what agrees at the places that count, agrees -/
def BK (R : Nat) (N : Nat → Nat) (pr fr sz lm pc pd qu : Nat → Int32) (ask wai fee tak : Int32) (w : Nat → Int32) : Prop := ∃ a q, BKg R N a 0 q q 0 pr fr sz lm pc pd qu ask wai fee tak w
theorem BK_cong {R : Nat} {N : Nat → Nat} {pr fr sz lm pc pd qu pr' fr' sz' lm' pc' pd' qu' w w' : Nat → Int32} {ask wai fee tak : Int32} (hR : R ≤ 4) (hN : ∀ r, r < R → N r ≤ 9) (hw : ∀ j, j < 229 → w' j = w j) (h1 : ∀ r, r < 4 → pr' r = pr r) (h2 : ∀ r, r < 4 → fr' r = fr r) (h3 : ∀ p, p < 31 → sz' p = sz p) (h4 : ∀ p, p < 31 → lm' p = lm p) (h5 : ∀ p, p < 31 → pc' p = pc p) (h6 : ∀ p, p < 31 → pd' p = pd p) (h7 : ∀ i, i < 5 → qu' i = qu i) (B : BK R N pr fr sz lm pc pd qu ask wai fee tak w) : BK R N pr' fr' sz' lm' pc' pd' qu' ask wai fee tak w' := by
  obtain ⟨a, q, ⟨ha, hask, hw6⟩, hPN, hPt, hOw, hpr, ⟨hfr, hfr0⟩, ⟨hfee, htak⟩, ⟨hci, him, hwai, hw7⟩, ⟨hq1, hq2⟩, hqm, hqd⟩ := B
  refine ⟨a, q, ⟨ha, hask, by rw [hw 6 (by omega)]; exact hw6⟩, fun x g1 g2 => ?_, fun x g1 g2 g3 => ?_, fun r' hr' s' hs' => ?_, fun r' hr' => by rw [hw r' (by omega), h1 r' (by omega)]; exact hpr r' hr', ⟨fun r' hr' => ?_, fun r' g1 g2 => by rw [h2 r' g2]; exact hfr0 r' g1 g2⟩, ⟨by rw [hw 4 (by omega)]; exact hfee, by rw [hw 5 (by omega)]; exact htak⟩, ⟨hci, him, hwai, by rw [hw 7 (by omega)]; exact hw7⟩, ⟨fun j hj => by rw [hw (8 + j) (by omega), h7 j (by omega)]; exact hq1 j hj, fun t ht => by omega⟩, fun x hx => ?_, fun x y hx hy e => ?_⟩
  · unfold PtN
    rw [hw _ (by omega), hw _ (by omega), h3 x (by omega), h4 x (by omega)]
    exact hPN x g1 g2
  · obtain ⟨hd, hst⟩ := hPt x g1 g2 g3
    refine ⟨by rw [h6 x (by omega), hw _ (by omega)]; exact hd, ?_⟩
    rcases hst with ⟨t1, n', r', s', t2, t3, t4, t5, t6, t7, t8⟩ | ⟨t1, t2, t3⟩ | ⟨t1, t2, t3, y, hy, t4⟩
    · have hN' := hN r' t3
      exact Or.inl ⟨by rw [hw _ (by omega)]; exact t1, n', r', s', by rw [hw _ (by omega)]; exact t2, t3, t4, by rw [hw _ (by omega)]; exact t5, by rw [hw _ (by omega)]; exact t6, by rw [h5 x (by omega)]; exact t7, fun k hk => by rw [hw _ (by omega)]; exact t8 k hk⟩
    · exact Or.inr (Or.inl ⟨by rw [hw _ (by omega)]; exact t1, by rw [h5 x (by omega)]; exact t2, by rw [hw _ (by omega)]; exact t3⟩)
    · exact Or.inr (Or.inr ⟨by rw [hw _ (by omega)]; exact t1, by rw [h5 x (by omega)]; exact t2, by rw [hw _ (by omega)]; exact t3, y, hy, by rw [h7 y (by omega)]; exact t4⟩)
  · have hN' := hN r' hr'
    have e0 := hw (13 + 9 * r' + s') (by omega)
    rcases hOw r' hr' s' hs' with h | ⟨x, n', s0, q1, q2, q3, q4, q5, q6, q7, q8, q9, q10⟩
    · exact Or.inl (by rw [e0]; exact h)
    · exact Or.inr ⟨x, n', s0, q1, q2, q3, by rw [e0]; exact q4, by rw [hw _ (by omega)]; exact q5, by rw [hw _ (by omega)]; exact q6, by rw [hw _ (by omega)]; exact q7, by rw [hw _ (by omega)]; exact q8, q9, q10⟩
  · have hN' := hN r' hr'
    rw [h2 r' (by omega), hfr r' hr']
    refine FA_cong (fun k hk => ?_)
    unfold frW
    rw [hw _ (by omega)]
  · obtain ⟨x', q1, q2, q3, q4, q5⟩ := hqm x hx
    exact ⟨x', q1, q2, q3, by rw [h7 x (by omega)]; exact q4, by rw [hw _ (by omega)]; exact q5⟩
  · rw [h7 x (by omega), h7 y (by omega)] at e
    exact hqd x y hx hy e
theorem cp_at {f g : Nat → Int32} {n k : Nat} (h : k < n) : va_cpy f g 0 0 n k = f k := by
  unfold va_cpy
  rw [if_pos (by omega)]
  congr 1
  omega
theorem m_copyLoop {f g : Nat → Int32} : ∀ fu i, i ≤ 229 → 230 ≤ i + fu → fX9_copy_2 fu f (fa_fill f g i) (nI i) = some (fa_fill f g 229) := by
  intro fu
  induction fu with
  | zero => intro i h1 h2; omega
  | succ fu ih =>
    intro i h1 h2
    rw [fX9_copy_2]
    by_cases h : i = 229
    · subst h
      rw [if_pos (show (229 : Int32) ≤ nI 229 from by decide)]
    · rw [if_neg (show ¬ (229 : Int32) ≤ nI i from nI_ge (b := 229) (by omega) (by decide)), if_neg (nI_in (by omega) (by decide)), if_neg (nI_in (by omega) (by decide)), nI_clamp (by omega), fa_fill_succ, nI_1]
      exact ih (i + 1) (by omega) (by omega)
theorem m_copy (f g : Nat → Int32) : fX9_copy f g = some (fa_fill f g 229) := by
  have h := m_copyLoop (f := f) (g := g) FU 0 (by omega) (by have := FU_ge (k := 231) (by decide); omega)
  rw [fa_fill_0] at h
  exact h
/-- a copy of the bookings beside a copy of the page -/
theorem L_copy {R : Nat} {N : Nat → Nat} {pr fr sz lm pc pd qu o0 o1 o2 o3 o4 o5 o6 w w' : Nat → Int32} {ask wai fee tak : Int32} (hR : R ≤ 4) (hN : ∀ r, r < R → N r ≤ 9) (B : BK R N pr fr sz lm pc pd qu ask wai fee tak w) (hw : ∀ j, j < 229 → w' j = w j) : BK R N (va_cpy pr o0 0 0 4) (va_cpy fr o1 0 0 4) (va_cpy sz o2 0 0 31) (va_cpy lm o3 0 0 31) (va_cpy pc o4 0 0 31) (va_cpy pd o5 0 0 31) (va_cpy qu o6 0 0 5) ask wai fee tak w' := BK_cong hR hN hw (fun _ h => cp_at h) (fun _ h => cp_at h) (fun _ h => cp_at h) (fun _ h => cp_at h) (fun _ h => cp_at h) (fun _ h => cp_at h) (fun _ h => cp_at h) B
def BKq (R : Nat) (N : Nat → Nat) (A : Nat → Nat → Int32) (V : Nat → Int32) (w : Nat → Int32) : Prop := BK R N (A 0) (A 1) (A 2) (A 3) (A 4) (A 5) (A 6) (V 0) (V 1) (V 2) (V 3) w
theorem BKq_w {R : Nat} {N : Nat → Nat} {A : Nat → Nat → Int32} {V : Nat → Int32} {w w' : Nat → Int32} (hR : R ≤ 4) (hN : ∀ r, r < R → N r ≤ 9) (B : BKq R N A V w) (hw : ∀ j, j < 229 → w' j = w j) : BKq R N A V w' := BK_cong hR hN hw (fun _ _ => rfl) (fun _ _ => rfl) (fun _ _ => rfl) (fun _ _ => rfl) (fun _ _ => rfl) (fun _ _ => rfl) (fun _ _ => rfl) B
/-- what can be undone: the ring beside the book -/
def PastR (R : Nat) (N : Nat → Nat) (x u : Nat) (pA : Nat → Nat → Nat → Int32) (pV : Nat → Nat → Int32) (book : Nat → Int32) : Prop := x < 14 ∧ u ≤ 14 ∧ ∀ j, j < u → BKq R N (pA ((x + 14 - u + j) % 14)) (pV ((x + 14 - u + j) % 14)) (fun k => book (229 * j + k))
theorem m_note52 {page book : Nat → Int32} {d : Nat} (hd : d < 14) : ∀ fu i, i ≤ 229 → 230 ≤ i + fu → fX9_note_52 fu (nI d) page (fb_put book page (229 * d) i) (nI i) = some (nI (d + 1), fb_put book page (229 * d) 229) := by
  intro fu
  induction fu with
  | zero => intro i h1 h2; omega
  | succ fu ih =>
    intro i h1 h2
    rw [fX9_note_52]
    by_cases h : i = 229
    · subst h
      rw [if_pos (show (229 : Int32) ≤ nI 229 from by decide), nI_1]
    · rw [if_neg (show ¬ (229 : Int32) ≤ nI i from nI_ge (b := 229) (by omega) (by decide)), if_neg (nI_in (by omega) (by decide)), show (229 : Int32) * nI d + nI i = nI (229 * d + i) by rw [show (229 : Int32) = nI 229 from rfl, pk_mul, nI_add], if_neg (nI_in (by omega) (by decide)), nI_clamp (by omega), nI_clamp (by omega), fb_put_succ, nI_1]
      exact ih (i + 1) (by omega) (by omega)
theorem m_note11 {page book : Nat → Int32} : ∀ fu i, i ≤ 2977 → 2978 ≤ i + fu → fX9_note_11 fu (nI 14) page (fa_fill (fun k => book (k + 229)) book i) (nI i) = some (nI 14, fb_put (fa_fill (fun k => book (k + 229)) book 2977) page (229 * 13) 229) := by
  intro fu
  induction fu with
  | zero => intro i h1 h2; omega
  | succ fu ih =>
    intro i h1 h2
    rw [fX9_note_11]
    by_cases h : i = 2977
    · subst h
      rw [if_pos (show (2977 : Int32) ≤ nI 2977 from by decide), show nI 14 - 1 = nI 13 from by decide]
      have h3 := m_note52 (page := page) (book := fa_fill (fun k => book (k + 229)) book 2977) (d := 13) (by decide) FU 0 (by omega) (by have := FU_ge (k := 231) (by decide); omega)
      rw [fb_put_0] at h3
      exact h3
    · rw [if_neg (show ¬ (2977 : Int32) ≤ nI i from nI_ge (b := 2977) (by omega) (by decide)), show nI i + (229 : Int32) = nI (i + 229) by rw [show (229 : Int32) = nI 229 from rfl, nI_add], if_neg (nI_in (by omega) (by decide)), if_neg (nI_in (by omega) (by decide)), nI_clamp (by omega), nI_clamp (by omega), fa_fill_out (show i ≤ i + 229 by omega), fa_fill_succ (fun k => book (k + 229)), nI_1]
      exact ih (i + 1) (by omega) (by omega)
theorem m_note {page book : Nat → Int32} {u : Nat} (hu : u ≤ 14) : fX9_note (nI u) page book = (if u = 14 then some (nI 14, fb_put (fa_fill (fun k => book (k + 229)) book 2977) page (229 * 13) 229) else some (nI (u + 1), fb_put book page (229 * u) 229)) := by
  unfold fX9_note
  by_cases h : u = 14
  · subst h
    rw [if_pos (show nI 14 = (14 : Int32) from rfl), if_pos rfl]
    have h3 := m_note11 (page := page) (book := book) FU 0 (by omega) (by have := FU_ge (k := 2979) (by decide); omega)
    rw [fa_fill_0] at h3
    exact h3
  · rw [if_neg (show ¬ nI u = (14 : Int32) from fun e => h (nI_inj (y := 14) (by omega) (by decide) e)), if_neg h]
    have h3 := m_note52 (page := page) (book := book) (d := u) (by omega) FU 0 (by omega) (by have := FU_ge (k := 231) (by decide); omega)
    rw [fb_put_0] at h3
    exact h3
theorem c_remember {x u : Nat} {ask wai fee tak : Int32} {pr fr sz lm pc pd qu : Nat → Int32} {pA : Nat → Nat → Nat → Int32} {pV : Nat → Nat → Int32} (hx : x < 14) (hu : u ≤ 14) : fX3_remember (nI x) (nI u) ask wai fee tak pr fr sz lm pc pd qu pA pV = some (nI ((x + 1) % 14), nI (if u = 14 then 14 else u + 1), va_up pA x (mk7 (va_cpy pr (pA x 0) 0 0 4) (va_cpy fr (pA x 1) 0 0 4) (va_cpy sz (pA x 2) 0 0 31) (va_cpy lm (pA x 3) 0 0 31) (va_cpy pc (pA x 4) 0 0 31) (va_cpy pd (pA x 5) 0 0 31) (va_cpy qu (pA x 6) 0 0 5)), va_up pV x (mk4 ask wai fee tak)) := by
  have em : (if (14 : Int32) < nI u + 1 then (14 : Int32) else nI u + 1) = nI (if u = 14 then 14 else u + 1) := by
    rw [nI_1]
    by_cases h : u = 14
    · subst h
      decide
    · rw [if_neg (show ¬ (14 : Int32) < nI (u + 1) from nI_nlt (a := 14) (by omega) (by decide)), if_neg h]
  unfold fX3_remember fX3_remember_64 fX0_copyFrom
  rw [if_neg (nI_pos (by omega)), if_neg (show ¬ (14 : Int32) ≤ nI x from nI_ge (b := 14) hx (by decide)), if_neg (nI_in hx (by decide)), if_neg (nI_in hx (by decide)), Option.bind_some, nI_clamp (by omega), em, nI_1]
  by_cases h : x = 13
  · subst h
    rw [if_pos (show (14 : Int32) ≤ nI (13 + 1) from by decide)]
    rfl
  · rw [if_neg (show ¬ (14 : Int32) ≤ nI (x + 1) from nI_ge (b := 14) (by omega) (by decide)), Nat.mod_eq_of_lt (show x + 1 < 14 by omega)]
    rfl
