/-! reading a hall: the class letter by letter, the reference row by row -/
def RowR (r n : Nat) (cp cs cj cv mm mv ma mp : Nat → Int32) : Prop := 1 ≤ n ∧ n ≤ 9 ∧ mm r = nI n ∧ cs r = nI n ∧ (∃ p, 1 ≤ p ∧ p ≤ 9 ∧ cp r = nI p ∧ mp r = nI p) ∧ (∀ k, k < n → cv (9 * r + k) = mv (9 * r + k) ∧ (∃ v, v ≤ 9 ∧ mv (9 * r + k) = nI v) ∧ ∃ b, ma (9 * r + k) = bI b) ∧ cj r = Mk (fun k => decide (k + 1 < n) && decide (ma (9 * r + k) = 0)) ∧ ∀ k, k + 1 = n → ma (9 * r + k) = 0
def HR (R : Nat) (cp cs cj cv mm mv ma mp : Nat → Int32) : Prop := R ≤ 4 ∧ (∀ r, r < R → ∃ n, RowR r n cp cs cj cv mm mv ma mp) ∧ ∀ j, R ≤ j → j < 229 → mp j = 0
/-- a row in part: n seats, s: an aisle behind the last -/
def PartR (R n : Nat) (s : Bool) (p : Nat) (cp cs cj cv ma mv : Nat → Int32) : Prop := R < 4 ∧ n ≤ 9 ∧ (s = true → 1 ≤ n ∧ n < 9) ∧ (1 ≤ p ∧ p ≤ 9 ∧ cp R = nI p) ∧ cs R = nI n ∧ (∀ k, k < n → cv (9 * R + k) = mv (9 * R + k) ∧ (∃ v, v ≤ 9 ∧ mv (9 * R + k) = nI v) ∧ ∃ b, ma (9 * R + k) = bI b) ∧ cj R = Mk (fun k => decide (k + 1 < n) && decide (ma (9 * R + k) = 0)) ∧ ∀ k, k + 1 = n → ma (9 * R + k) = bI s
def awN (n : Nat) (s : Bool) : Nat := if n = 0 ∨ s = true then 3 else 4
theorem Mk_set {P : Nat → Bool} {j : Nat} (hj : j < 9) : Mk P ||| ((1 : Int32) <<< (nI j &&& 31)) = Mk (fun k => P k || decide (k = j)) := by
  have e : (1 : Int32) <<< (nI j &&& 31) = Mk (fun i => decide (i = j)) := by
    rw [sh1 j (by omega)]
    refine Mk_ext (fun i hi => ?_)
    rw [bt_nI _ _ hi, Nat.testBit_two_pow]
    by_cases h : j = i
    · subst h
      simp [hj]
    · have h2 : ¬ i = j := fun q => h q.symm
      simp [h, h2]
  rw [e, Mk_or]
theorem RowR_cong {r n R : Nat} {cp cs cj cv mm mv ma mp cp' cs' cj' cv' mm' mv' ma' mp' : Nat → Int32} (hr : r < R) (h1 : ∀ j, j < R → cp' j = cp j) (h2 : ∀ j, j < R → cs' j = cs j) (h3 : ∀ j, j < R → cj' j = cj j) (h4 : ∀ j, j < 9 * R → cv' j = cv j) (h5 : ∀ j, j < R → mm' j = mm j) (h6 : ∀ j, j < 9 * R → mv' j = mv j) (h7 : ∀ j, j < 9 * R → ma' j = ma j) (h8 : ∀ j, j < R → mp' j = mp j) (H : RowR r n cp cs cj cv mm mv ma mp) : RowR r n cp' cs' cj' cv' mm' mv' ma' mp' := by
  obtain ⟨a1, a2, a3, a4, ⟨p, p1, p2, p3, p4⟩, a6, a7, a8⟩ := H
  refine ⟨a1, a2, by rw [h5 r hr]; exact a3, by rw [h2 r hr]; exact a4, ⟨p, p1, p2, by rw [h1 r hr]; exact p3, by rw [h8 r hr]; exact p4⟩, fun k hk => ?_, ?_, fun k hk => by rw [h7 _ (by omega)]; exact a8 k hk⟩
  · rw [h4 _ (by omega), h6 _ (by omega), h7 _ (by omega)]
    exact a6 k hk
  · rw [h3 r hr, a7]
    refine Mk_cong (fun k hk => ?_)
    by_cases c : k + 1 < n
    · rw [h7 _ (by omega)]
    · rw [decide_eq_false c, Bool.false_and, Bool.false_and]
theorem l_dig {c : Nat} (hc : c < 256) : fX9_in ((nI c).toInt64) (48 : Int64) (57 : Int64) = some (bI (decide (48 ≤ c ∧ c ≤ 57))) := by
  rw [show fX9_in ((nI c).toInt64) (48 : Int64) (57 : Int64) = some (bI (inR (nI c) 48 57)) from m_inR (nI c) 48 57]
  congr 2
  by_cases h : 48 ≤ c ∧ c ≤ 57
  · rw [decide_eq_true h, inR_nI h.1 h.2 (by decide)]
  · rw [decide_eq_false h]
    cases hi : inR (nI c) 48 57 with
    | false => rfl
    | true => exact absurd (inR_iff (by omega) (by decide) hi (by decide)) h
/-- what the class makes of a letter inside a row -/
theorem c_takesDig {R n d : Nat} {s : Bool} {p : Nat} {cp cs cj cv ma mv : Nat → Int32} (P : PartR R n s p cp cs cj cv ma mv) (hd : d ≤ 9) : fX4_takes (nI (R + 1)) (nI (awN n s)) cp cs cj cv (nI (48 + d)) = (if n < 9 then some (1, nI (R + 1), 4, cp, upd cs R (nI (n + 1)), (if awN n s = 4 then upd cj R (cj R ||| ((1 : Int32) <<< ((nI n - 1) &&& 31))) else cj), upd cv (9 * R + n) (nI d)) else some (0, nI (R + 1), nI (awN n s), cp, cs, cj, cv)) := by
  obtain ⟨hR, hn, hs, ⟨p1, p9, hp⟩, hcs, hk, hj, hl⟩ := P
  have ne : ∀ k, k < 1000 → k ≠ 48 + d → ¬ nI (48 + d) = nI k := fun k h1 h2 e => h2 (nI_inj (by omega) h1 e).symm
  have e1 : nI (R + 1) - (1 : Int32) = nI R := nI_pred R
  have ed : nI (48 + d) - (48 : Int32) = nI d := by
    rw [show (48 : Int32) = nI 48 from rfl, pk_sub (by omega)]
    congr 1
    omega
  have eix : nI R * (9 : Int32) + nI n = nI (9 * R + n) := by rw [show (9 : Int32) = nI 9 from rfl, pk_mul, nI_add, Nat.mul_comm]
  have haw : awN n s = 3 ∨ awN n s = 4 := by unfold awN; by_cases g : n = 0 ∨ s = true <;> simp [g]
  unfold fX4_takes
  rw [if_neg (show ¬ nI (48 + d) = (72 : Int32) from ne 72 (by decide) (by omega)), if_neg (show ¬ nI (48 + d) = (114 : Int32) from ne 114 (by decide) (by omega)), if_neg (show ¬ nI (48 + d) = (124 : Int32) from ne 124 (by decide) (by omega)), if_neg (show ¬ nI (48 + d) < (48 : Int32) from nI_nlt (b := 48) (by omega) (by omega)), if_neg (show ¬ (57 : Int32) < nI (48 + d) from nI_nlt (a := 57) (by omega) (by decide)), ed]
  unfold fX4_takesDigit fX4_takesDigit_51 fX4_takesView fX4_takesView_41
  rw [e1, c_hasRow1 (R := R + 1) (by omega) (by omega), Option.bind_some, i1_t, if_neg (nI_in (by omega) (by decide)), nI_clamp (n := R) (by omega), hcs, if_neg (nI_pos (by omega)), eix]
  by_cases h9 : n < 9
  · rw [if_pos h9, if_pos (show nI n < (9 : Int32) from nI_lt' (b := 9) h9 (by decide)), nI_clamp (n := 9 * R + n) (by omega), nI_1]
    have g36 : ¬ (nI (9 * R + n) < 0 ∨ 36 ≤ 9 * R + n) := (grd2 (by omega) (by decide)).mp
    have g4 : ¬ (nI R < 0 ∨ 4 ≤ R) := (grd2 (by omega) (by decide)).mp
    rcases haw with h | h
    · rw [h, if_neg (show ¬ nI 3 = (2 : Int32) by decide), if_pos (show nI 3 = (3 : Int32) from rfl), if_neg (show ¬ nI 3 = (4 : Int32) by decide), if_neg g36, if_neg g4, Option.bind_some, i1_t, Option.bind_some, i1_t, if_neg (show ¬ (3 : Nat) = 4 by decide)]
    · rw [h, if_neg (show ¬ nI 4 = (2 : Int32) by decide), if_neg (show ¬ nI 4 = (3 : Int32) by decide), if_pos (show nI 4 = (4 : Int32) from rfl), if_pos (show nI 4 = (4 : Int32) from rfl), if_neg g4, if_neg g4, if_neg g36, if_neg g4, Option.bind_some, i1_t, Option.bind_some, i1_t, if_pos rfl]
  · rw [if_neg h9, if_neg (show ¬ nI n < (9 : Int32) from nI_nlt (b := 9) (by omega) (by omega))]
    rcases haw with h | h
    · rw [h, if_neg (show ¬ nI 3 = (2 : Int32) by decide), if_pos (show nI 3 = (3 : Int32) from rfl), Option.bind_some, i0_t, Option.bind_some, i0_t]
    · rw [h, if_neg (show ¬ nI 4 = (2 : Int32) by decide), if_neg (show ¬ nI 4 = (3 : Int32) by decide), if_pos (show nI 4 = (4 : Int32) from rfl), Option.bind_some, i0_t, Option.bind_some, i0_t]
theorem c_takesBar {R n : Nat} {s : Bool} {p : Nat} {cp cs cj cv ma mv : Nat → Int32} (P : PartR R n s p cp cs cj cv ma mv) : fX4_takes (nI (R + 1)) (nI (awN n s)) cp cs cj cv (nI 124) = (if awN n s = 4 ∧ n < 9 then some (1, nI (R + 1), 3, cp, cs, cj, cv) else some (0, nI (R + 1), nI (awN n s), cp, cs, cj, cv)) := by
  obtain ⟨hR, hn, hs, ⟨p1, p9, hp⟩, hcs, hk, hj, hl⟩ := P
  have e1 : nI (R + 1) - (1 : Int32) = nI R := nI_pred R
  have haw : awN n s = 3 ∨ awN n s = 4 := by unfold awN; by_cases g : n = 0 ∨ s = true <;> simp [g]
  unfold fX4_takes fX4_takesAisle
  rw [if_neg (show ¬ nI 124 = (72 : Int32) by decide), if_neg (show ¬ nI 124 = (114 : Int32) by decide), if_pos (show nI 124 = (124 : Int32) from rfl), e1, c_seatsIn (R := R + 1) (by omega) (by omega), hcs, Option.bind_some]
  rcases haw with h | h
  · rw [h, if_neg (show ¬ nI 3 = (4 : Int32) by decide), Option.bind_some, if_neg bok0, if_neg (fun g => by omega)]
  · rw [h, if_pos (show nI 4 = (4 : Int32) from rfl)]
    by_cases h9 : n < 9
    · rw [if_pos (show nI n < (9 : Int32) from nI_lt' (b := 9) h9 (by decide)), Option.bind_some, if_neg bok1, if_pos ⟨rfl, h9⟩]
    · rw [if_neg (show ¬ nI n < (9 : Int32) from nI_nlt (b := 9) (by omega) (by omega)), Option.bind_some, if_neg bok0, if_neg (fun g => h9 g.2)]
/-- any other letter but r is a fault for the class -/
theorem c_takesOth {R aw c : Nat} {cp cs cj cv : Nat → Int32} (hc : c < 256) (h1 : ¬ (48 ≤ c ∧ c ≤ 57)) (h2 : c ≠ 124) (h3 : c ≠ 114) (haw : aw ≠ 0) (haw9 : aw < 9) : fX4_takes (nI R) (nI aw) cp cs cj cv (nI c) = some (0, nI R, nI aw, cp, cs, cj, cv) := by
  have ne : ∀ k, k < 1000 → k ≠ c → ¬ nI c = nI k := fun k g1 g2 e => g2 (nI_inj (by omega) g1 e).symm
  unfold fX4_takes fX4_takesHead
  by_cases h72 : c = 72
  · subst h72
    rw [if_pos (show nI 72 = (72 : Int32) from rfl), if_neg (fun e => haw ((eq0 (by omega)).mp e)), Option.bind_some, if_neg bok0]
  · rw [if_neg (show ¬ nI c = (72 : Int32) from ne 72 (by decide) (fun e => h72 e.symm)), if_neg (show ¬ nI c = (114 : Int32) from ne 114 (by decide) (fun e => h3 e.symm)), if_neg (show ¬ nI c = (124 : Int32) from ne 124 (by decide) (fun e => h2 e.symm))]
    by_cases g : c < 48
    · rw [if_pos (show nI c < (48 : Int32) from nI_lt' (b := 48) g (by decide))]
    · rw [if_neg (show ¬ nI c < (48 : Int32) from nI_nlt (b := 48) (by omega) (by omega)), if_pos (show (57 : Int32) < nI c from nI_lt' (a := 57) (by omega) (by omega))]
