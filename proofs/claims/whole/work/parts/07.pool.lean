/-! the pool: sixteen Bookings objects (fourteen of the ring, two of the slots), and calls that take one of them -/
def mk7 (a0 a1 a2 a3 a4 a5 a6 : Nat → Int32) : Nat → Nat → Int32 := fun k => match k with
  | 0 => a0
  | 1 => a1
  | 2 => a2
  | 3 => a3
  | 4 => a4
  | 5 => a5
  | _ => a6
def mk4 (a0 a1 a2 a3 : Int32) : Nat → Int32 := fun k => match k with
  | 0 => a0
  | 1 => a1
  | 2 => a2
  | _ => a3
def bkC (cI : ClassId) (ad : Nat → Nat) (ar : Nat → Nat → Int32) (sc : Nat → Int32) : va_W := [(ad 0, .inr (0, [.ref (ad 1), .ref (ad 2), .ref (ad 3), .ref (ad 4), .ref (ad 5), .ref (ad 6), .ref (ad 7), .int (sc 0), .int (sc 1), .int (sc 2), .int (sc 3)])), (ad 1, .inl (cI, (4, .inl (ar 0)))), (ad 2, .inl (cI, (4, .inl (ar 1)))), (ad 3, .inl (cI, (31, .inl (ar 2)))), (ad 4, .inl (cI, (31, .inl (ar 3)))), (ad 5, .inl (cI, (31, .inl (ar 4)))), (ad 6, .inl (cI, (31, .inl (ar 5)))), (ad 7, .inl (cI, (5, .inl (ar 6))))]
def plC (cI : ClassId) (pa : Nat → Nat → Nat) (pA : Nat → Nat → Nat → Int32) (pV : Nat → Nat → Int32) : Nat → va_W
  | 0 => []
  | n + 1 => plC cI pa pA pV n ++ bkC cI (pa n) (pA n) (pV n)
theorem bkC_len {cI : ClassId} {ad : Nat → Nat} {ar : Nat → Nat → Int32} {sc : Nat → Int32} : (bkC cI ad ar sc).length = 8 := rfl
theorem plC_len {cI : ClassId} {pa : Nat → Nat → Nat} {pA : Nat → Nat → Nat → Int32} {pV : Nat → Nat → Int32} (n : Nat) : (plC cI pa pA pV n).length = 8 * n := by
  induction n with
  | zero => rfl
  | succ n ih => rw [plC, List.length_append, ih, bkC_len]; omega
theorem plC_at {cI : ClassId} {pa : Nat → Nat → Nat} {pA : Nat → Nat → Nat → Int32} {pV : Nat → Nat → Int32} {n i j : Nat} (hi : i < n) (hj : j < 8) : (plC cI pa pA pV n)[8 * i + j]? = (bkC cI (pa i) (pA i) (pV i))[j]? := by
  induction n with
  | zero => omega
  | succ n ih =>
    rw [plC]
    by_cases h : i < n
    · rw [List.getElem?_append_left (by rw [plC_len]; omega)]
      exact ih h
    · have e : i = n := by omega
      subst e
      rw [List.getElem?_append_right (by rw [plC_len]; omega), plC_len, Nat.add_sub_cancel_left]
theorem plC_adr {cI : ClassId} {pa : Nat → Nat → Nat} {pA pA' : Nat → Nat → Nat → Int32} {pV pV' : Nat → Nat → Int32} (n : Nat) : (plC cI pa pA' pV' n).map (fun q => q.1) = (plC cI pa pA pV n).map (fun q => q.1) := by
  induction n with
  | zero => rfl
  | succ n ih => rw [plC, plC, List.map_append, List.map_append, ih]; rfl
theorem va_D.left {A : Nat → Prop} {a b : va_W} (h : va_D A (a ++ b)) : va_D A a := by
  have hl : ∀ (k : Nat) (q : Nat × va_E), a[k]? = some q → (a ++ b)[k]? = some q := fun k q hk => by
    rw [List.getElem?_append_left (List.getElem?_eq_some_iff.mp hk).1]; exact hk
  exact h.by (fun k => k) hl (fun _ _ _ _ e => e)
def gput (na i k : Nat) : Nat := if k < 8 then na + 8 + (8 * i + k) else na + (k - 8)
def gget (na i k : Nat) : Nat := if k < 8 then na + k else na + 8 + (8 * i + (k - 8))
theorem pput_ix {Xa cb : va_W} {cI : ClassId} {pa : Nat → Nat → Nat} {pA : Nat → Nat → Nat → Int32} {pV : Nat → Nat → Int32} {i : Nat} (hi : i < 16) (hcb : cb.length = 8) (k : Nat) (q : Nat × va_E) (h : (bkC cI (pa i) (pA i) (pV i) ++ cb)[k]? = some q) : ((Xa ++ cb) ++ plC cI pa pA pV 16)[gput Xa.length i k]? = some q := by
  have hlen : (Xa ++ cb).length = Xa.length + 8 := by rw [List.length_append, hcb]
  unfold gput
  by_cases hk : k < 8
  · rw [if_pos hk]
    rw [List.getElem?_append_left (by rw [bkC_len]; exact hk)] at h
    rw [List.getElem?_append_right (by omega), hlen, Nat.add_sub_cancel_left, plC_at hi hk]
    exact h
  · rw [if_neg hk]
    rw [List.getElem?_append_right (by rw [bkC_len]; omega), bkC_len] at h
    have hl := (List.getElem?_eq_some_iff.mp h).1
    rw [List.getElem?_append_left (by omega), List.getElem?_append_right (by omega), Nat.add_sub_cancel_left]
    exact h
theorem pget_ix {Xa cb : va_W} {cI : ClassId} {pa : Nat → Nat → Nat} {pA : Nat → Nat → Nat → Int32} {pV : Nat → Nat → Int32} {i : Nat} (hi : i < 16) (hcb : cb.length = 8) (k : Nat) (q : Nat × va_E) (h : (cb ++ bkC cI (pa i) (pA i) (pV i))[k]? = some q) : ((Xa ++ cb) ++ plC cI pa pA pV 16)[gget Xa.length i k]? = some q := by
  have hlen : (Xa ++ cb).length = Xa.length + 8 := by rw [List.length_append, hcb]
  unfold gget
  by_cases hk : k < 8
  · rw [if_pos hk]
    rw [List.getElem?_append_left (by omega)] at h
    rw [List.getElem?_append_left (by omega), List.getElem?_append_right (by omega), Nat.add_sub_cancel_left]
    exact h
  · rw [if_neg hk]
    rw [List.getElem?_append_right (by omega), hcb] at h
    have hl := (List.getElem?_eq_some_iff.mp h).1
    rw [bkC_len] at hl
    rw [List.getElem?_append_right (by omega), hlen, Nat.add_sub_cancel_left, plC_at hi hl]
    exact h
theorem va_P.pput {D : va_G} {Xa cb : va_W} {cI : ClassId} {pa : Nat → Nat → Nat} {pA : Nat → Nat → Nat → Int32} {pV : Nat → Nat → Int32} {i : Nat} {H : Heap} (hi : i < 16) (hcb : cb.length = 8) (h : va_P D vwCl ((Xa ++ cb) ++ plC cI pa pA pV 16) H) : va_P D vwCl (bkC cI (pa i) (pA i) (pV i) ++ cb) H := h.by _ (pput_ix hi hcb)
theorem va_P.pget {D : va_G} {Xa cb : va_W} {cI : ClassId} {pa : Nat → Nat → Nat} {pA : Nat → Nat → Nat → Int32} {pV : Nat → Nat → Int32} {i : Nat} {H : Heap} (hi : i < 16) (hcb : cb.length = 8) (h : va_P D vwCl ((Xa ++ cb) ++ plC cI pa pA pV 16) H) : va_P D vwCl (cb ++ bkC cI (pa i) (pA i) (pV i)) H := h.by _ (pget_ix hi hcb)
theorem va_D.pput {A : Nat → Prop} {Xa cb : va_W} {cI : ClassId} {pa : Nat → Nat → Nat} {pA : Nat → Nat → Nat → Int32} {pV : Nat → Nat → Int32} {i : Nat} (hi : i < 16) (hcb : cb.length = 8) (h : va_D A ((Xa ++ cb) ++ plC cI pa pA pV 16)) : va_D A (bkC cI (pa i) (pA i) (pV i) ++ cb) := by
  refine h.by _ (pput_ix hi hcb) (fun x y hx hy e => ?_)
  rw [List.length_append, bkC_len, hcb] at hx hy
  unfold gput at e
  by_cases h1 : x < 8 <;> by_cases h2 : y < 8 <;> simp only [h1, h2, if_true, if_false] at e <;> omega
theorem va_D.pget {A : Nat → Prop} {Xa cb : va_W} {cI : ClassId} {pa : Nat → Nat → Nat} {pA : Nat → Nat → Nat → Int32} {pV : Nat → Nat → Int32} {i : Nat} (hi : i < 16) (hcb : cb.length = 8) (h : va_D A ((Xa ++ cb) ++ plC cI pa pA pV 16)) : va_D A (cb ++ bkC cI (pa i) (pA i) (pV i)) := by
  refine h.by _ (pget_ix hi hcb) (fun x y hx hy e => ?_)
  rw [List.length_append, bkC_len, hcb] at hx hy
  unfold gget at e
  by_cases h1 : x < 8 <;> by_cases h2 : y < 8 <;> simp only [h1, h2, if_true, if_false] at e <;> omega
section CLP
variable {p : Program} {l : Launch} {e : Env} {R : Room} {s : State} {m : MethodId} {args : Array Value} {below : List Frame} {meth : Method} {c : Code} {H : Heap} {locs : List Loc} {cells slots : Nat} {Q : State → Prop}
variable {pc : Nat} {ls : Array Slot} {rest st0 : List Value} {a : Array Value} {A : Nat → Prop} {H0 : Heap} {D : va_G}
theorem cl_rwA {o : Option Value} {ws wc wc' wsN : va_W} (hr : va_Run p l e R s m args below meth c H locs cells slots 0 0 (F0 m pc ls st0) rest (QRw D (va_A wc H.size) wc' o a) (va_A wc H.size))
    (hP : va_P D vwCl ws H) (hD : va_D A ws) (hS : va_S A H0 H locs) (hA : ∀ q : Nat, H0.size ≤ q → A q)
    (g : Nat → Nat) (hg : ∀ (k : Nat) (q : Nat × va_E), wc[k]? = some q → ws[g k]? = some q) (hadr : wsN.map (fun q => q.1) = ws.map (fun q => q.1))
    (hN : ∀ (k : Nat) (q : Nat × va_E), wsN[k]? = some q → q ∈ wc' ∨ (ws[k]? = some q ∧ ∀ j : Nat, j < wc.length → g j ≠ k))
    (kk : ∀ (H1 : Heap) (locs1 : List Loc), va_P D vwCl wsN H1 → va_D A wsN → va_S A H0 H1 locs1 → W p l e R s m args below meth c H1 locs1 cells slots Q (F0 m (pc + 3) ls (o.toList ++ rest))) : W p l e R s m args below meth c H locs cells slots Q (F0 m pc ls st0) := by
  have hF : ∀ q, va_A wc H.size q → A q := by
    intro q hq
    rcases hq with ⟨k, e, h⟩ | h
    · exact hD.2 _ _ (hg k _ h)
    · exact hA q (Nat.le_trans hS.1 h)
  intro T hT X
  obtain ⟨v, st₀, t, T', L, h0, X', hL, e1, e2, ⟨⟨hv, hP1, hD1⟩, hz, hk⟩, st⟩ := hr T hT X
  cases hv
  rw [h0] at hz hk
  rw [← e1] at hP1 hz hk
  have hPn : va_P D vwCl wsN T'.heap := by
    intro k q hq
    rcases hN k q hq with h | ⟨h, hj⟩
    · obtain ⟨i, hi⟩ := List.getElem?_of_mem h
      exact hP1 i q hi
    · have hat := hP k q h
      refine hat.kept (hk q.1 hat.lt ?_)
      intro h9
      rcases h9 with ⟨j, e, hje⟩ | h9
      · exact hj j (List.getElem?_eq_some_iff.mp hje).1 (hD.1 _ _ _ _ (hg j _ hje) h rfl)
      · have := hat.lt
        omega
  have hDn : va_D A wsN := by
    have at' : ∀ (k : Nat) (q : Nat × va_E), wsN[k]? = some q → ∃ q', ws[k]? = some q' ∧ q'.1 = q.1 := by
      intro k q hq
      have h1 : (wsN.map (fun q => q.1))[k]? = some q.1 := by rw [List.getElem?_map, hq]; rfl
      rw [hadr, List.getElem?_map] at h1
      cases hw : ws[k]? with
      | none => rw [hw] at h1; cases h1
      | some q' => rw [hw] at h1; exact ⟨q', rfl, Option.some.inj h1⟩
    refine ⟨fun i j x y hi hj hpq => ?_, fun k q hk => ?_⟩
    · obtain ⟨p', h1, e1⟩ := at' i x hi
      obtain ⟨q', h2, e2⟩ := at' j y hj
      exact hD.1 i j p' q' h1 h2 (by rw [e1, e2, hpq])
    · obtain ⟨q', h1, e1⟩ := at' k q hk
      rw [← e1]
      exact hD.2 k q' h1
  obtain ⟨t2, a1, b1⟩ := kk T'.heap (locs ++ L) hPn hDn
    ⟨Nat.le_trans hS.1 hz, fun q h1 h2 => by rw [hk q (Nat.lt_of_lt_of_le h1 hS.1) (fun z => h2 (hF q z))]; exact hS.2.1 q h1 h2, fun q hq => by
      rcases List.mem_append.mp hq with h | h
      · exact hS.2.2 q h
      · exact hF _ (hL q h)⟩ T' rfl X'
  exact ⟨t2, st t2 a1, b1⟩
theorem pl_split {X Y : va_W} {k : Nat} {q : Nat × va_E} (h : (X ++ Y)[k]? = some q) : (k < X.length ∧ X[k]? = some q) ∨ (X.length ≤ k ∧ Y[k - X.length]? = some q) := by
  by_cases hk : k < X.length
  · rw [List.getElem?_append_left hk] at h
    exact Or.inl ⟨hk, h⟩
  · rw [List.getElem?_append_right (Nat.not_lt.mp hk)] at h
    exact Or.inr ⟨Nat.not_lt.mp hk, h⟩
theorem cl_pput {Xa cb : va_W} {cI : ClassId} {pa : Nat → Nat → Nat} {pA : Nat → Nat → Nat → Int32} {pV : Nat → Nat → Int32} {A' : Nat → Nat → Int32} {V' : Nat → Int32} {i : Nat} (hi : i < 16) (hcb : cb.length = 8)
    (hr : va_Run p l e R s m args below meth c H locs cells slots 0 0 (F0 m pc ls st0) rest (QRw D (va_A (bkC cI (pa i) (pA i) (pV i) ++ cb) H.size) (bkC cI (pa i) A' V' ++ cb) none a) (va_A (bkC cI (pa i) (pA i) (pV i) ++ cb) H.size))
    (hP : va_P D vwCl ((Xa ++ cb) ++ plC cI pa pA pV 16) H) (hD : va_D A ((Xa ++ cb) ++ plC cI pa pA pV 16)) (hS : va_S A H0 H locs) (hA : ∀ q : Nat, H0.size ≤ q → A q)
    (kk : ∀ (H1 : Heap) (locs1 : List Loc), va_P D vwCl ((Xa ++ cb) ++ plC cI pa (va_up pA i A') (va_up pV i V') 16) H1 → va_D A ((Xa ++ cb) ++ plC cI pa (va_up pA i A') (va_up pV i V') 16) → va_S A H0 H1 locs1 → W p l e R s m args below meth c H1 locs1 cells slots Q (F0 m (pc + 3) ls rest)) : W p l e R s m args below meth c H locs cells slots Q (F0 m pc ls st0) := by
  have hlen : (Xa ++ cb).length = Xa.length + 8 := by rw [List.length_append, hcb]
  refine cl_rwA (wsN := (Xa ++ cb) ++ plC cI pa (va_up pA i A') (va_up pV i V') 16) hr hP hD hS hA (gput Xa.length i) (pput_ix hi hcb) ?_ ?_ kk
  · simp only [List.map_append]
    rw [plC_adr (pA := pA) (pV := pV)]
  · intro k q hq
    rcases pl_split hq with ⟨hk, hq⟩ | ⟨hk, hq⟩
    · have hq0 := hq
      rcases pl_split hq with ⟨hk2, hq⟩ | ⟨hk2, hq⟩
      · refine Or.inr ⟨by rw [List.getElem?_append_left hk]; exact hq0, fun j hj e => ?_⟩
        unfold gput at e
        by_cases h8 : j < 8 <;> simp only [h8, if_true, if_false] at e <;> omega
      · exact Or.inl (List.mem_append_right _ (List.mem_of_getElem? hq))
    · have hl := (List.getElem?_eq_some_iff.mp hq).1
      rw [plC_len] at hl
      have ek : k - (Xa ++ cb).length = 8 * ((k - (Xa ++ cb).length) / 8) + (k - (Xa ++ cb).length) % 8 := by omega
      have hq0 := hq
      rw [ek, plC_at (by omega) (by omega)] at hq
      by_cases hii : (k - (Xa ++ cb).length) / 8 = i
      · rw [hii, va_up_self, va_up_self] at hq
        exact Or.inl (List.mem_append_left _ (List.mem_of_getElem? hq))
      · rw [va_up_ne _ _ hii, va_up_ne _ _ hii, ← plC_at (n := 16) (by omega) (by omega), ← ek] at hq
        refine Or.inr ⟨by rw [List.getElem?_append_right hk]; exact hq, fun j hj e => ?_⟩
        rw [List.length_append, bkC_len, hcb] at hj
        unfold gput at e
        by_cases h8 : j < 8 <;> simp only [h8, if_true, if_false] at e <;> omega
theorem cl_pget {Xa cb cb' : va_W} {cI : ClassId} {pa : Nat → Nat → Nat} {pA : Nat → Nat → Nat → Int32} {pV : Nat → Nat → Int32} {i : Nat} (hi : i < 16) (hcb : cb.length = 8) (had : cb'.map (fun q => q.1) = cb.map (fun q => q.1))
    (hr : va_Run p l e R s m args below meth c H locs cells slots 0 0 (F0 m pc ls st0) rest (QRw D (va_A (cb ++ bkC cI (pa i) (pA i) (pV i)) H.size) (cb' ++ bkC cI (pa i) (pA i) (pV i)) none a) (va_A (cb ++ bkC cI (pa i) (pA i) (pV i)) H.size))
    (hP : va_P D vwCl ((Xa ++ cb) ++ plC cI pa pA pV 16) H) (hD : va_D A ((Xa ++ cb) ++ plC cI pa pA pV 16)) (hS : va_S A H0 H locs) (hA : ∀ q : Nat, H0.size ≤ q → A q)
    (kk : ∀ (H1 : Heap) (locs1 : List Loc), va_P D vwCl ((Xa ++ cb') ++ plC cI pa pA pV 16) H1 → va_D A ((Xa ++ cb') ++ plC cI pa pA pV 16) → va_S A H0 H1 locs1 → W p l e R s m args below meth c H1 locs1 cells slots Q (F0 m (pc + 3) ls rest)) : W p l e R s m args below meth c H locs cells slots Q (F0 m pc ls st0) := by
  have hcb' : cb'.length = 8 := by rw [← hcb, ← List.length_map (f := fun q : Nat × va_E => q.1), had, List.length_map]
  have hlen : (Xa ++ cb).length = Xa.length + 8 := by rw [List.length_append, hcb]
  have hlen' : (Xa ++ cb').length = Xa.length + 8 := by rw [List.length_append, hcb']
  refine cl_rwA (wsN := (Xa ++ cb') ++ plC cI pa pA pV 16) hr hP hD hS hA (gget Xa.length i) (pget_ix hi hcb) ?_ ?_ kk
  · simp only [List.map_append, had]
  · intro k q hq
    rcases pl_split hq with ⟨hk, hq⟩ | ⟨hk, hq⟩
    · rcases pl_split hq with ⟨hk2, hq⟩ | ⟨hk2, hq⟩
      · refine Or.inr ⟨by rw [List.getElem?_append_left (by omega), List.getElem?_append_left hk2]; exact hq, fun j hj e => ?_⟩
        unfold gget at e
        by_cases h8 : j < 8 <;> simp only [h8, if_true, if_false] at e <;> omega
      · exact Or.inl (List.mem_append_left _ (List.mem_of_getElem? hq))
    · have hl := (List.getElem?_eq_some_iff.mp hq).1
      rw [plC_len] at hl
      have ek : k - (Xa ++ cb').length = 8 * ((k - (Xa ++ cb').length) / 8) + (k - (Xa ++ cb').length) % 8 := by omega
      have hq0 := hq
      rw [ek, plC_at (by omega) (by omega)] at hq
      by_cases hii : (k - (Xa ++ cb').length) / 8 = i
      · rw [hii] at hq
        exact Or.inl (List.mem_append_right _ (List.mem_of_getElem? hq))
      · refine Or.inr ⟨by rw [List.getElem?_append_right (by omega), hlen, ← hlen']; exact hq0, fun j hj e => ?_⟩
        rw [List.length_append, bkC_len, hcb] at hj
        unfold gget at e
        by_cases h8 : j < 8 <;> simp only [h8, if_true, if_false] at e <;> omega
/-- a call that takes some of the fixed cells and the pool -/
theorem cl_rwP {o : Option Value} {X cx cx' wr XN pl pl1 : va_W} (hr : va_Run p l e R s m args below meth c H locs cells slots 0 0 (F0 m pc ls st0) rest (QRw D (va_A (cx ++ pl) H.size) (cx' ++ pl1) o a) (va_A (cx ++ pl) H.size))
    (hP : va_P D vwCl (X ++ pl) H) (hD : va_D A (X ++ pl)) (hS : va_S A H0 H locs) (hA : ∀ q : Nat, H0.size ≤ q → A q)
    (isC isR perm : List Nat) (hC : isC.map (fun i => X[i]?) = cx.map some) (hR : isR.map (fun i => X[i]?) = wr.map some) (hn : va_nd isR = true) (hdis : ∀ i ∈ isR, i ∉ isC)
    (hN : perm.map (fun i => (wr ++ cx')[i]?) = XN.map some) (hnp : va_nd perm = true)
    (kk : ∀ (H1 : Heap) (locs1 : List Loc), va_P D vwCl (XN ++ pl1) H1 → va_D A (XN ++ pl1) → va_S A H0 H1 locs1 → W p l e R s m args below meth c H1 locs1 cells slots Q (F0 m (pc + 3) ls (o.toList ++ rest))) : W p l e R s m args below meth c H locs cells slots Q (F0 m pc ls st0) := by
  have hF := va_freeP (cx := cx) hD hS hA isC hC
  intro T hT Xx
  obtain ⟨v, st₀, t, T', L, h0, X', hL, e1, e2, ⟨⟨hv, hP1, hD1⟩, hz, hk⟩, st⟩ := hr T hT Xx
  cases hv
  rw [h0] at hz hk
  rw [← e1] at hP1 hz hk
  obtain ⟨hPj, hDj⟩ := va_joinP hP hD isC isR hC hR hn hdis hk hF hP1 hD1
  obtain ⟨t2, a1, b1⟩ := kk T'.heap (locs ++ L) (hPj.part perm hN) (hDj.part perm hnp hN)
    ⟨Nat.le_trans hS.1 hz, fun q h1 h2 => by rw [hk q (Nat.lt_of_lt_of_le h1 hS.1) (fun z => h2 (hF q z))]; exact hS.2.1 q h1 h2, fun q hq => by
      rcases List.mem_append.mp hq with h | h
      · exact hS.2.2 q h
      · exact hF _ (hL q h)⟩ T' rfl X'
  exact ⟨t2, st t2 a1, b1⟩
/-- a call that takes some of the fixed cells, beside the pool -/
theorem cl_rwQ {o : Option Value} {X cx cx' wr XN pl : va_W} (hr : va_Run p l e R s m args below meth c H locs cells slots 0 0 (F0 m pc ls st0) rest (QRw D (va_A cx H.size) cx' o a) (va_A cx H.size))
    (hP : va_P D vwCl (X ++ pl) H) (hD : va_D A (X ++ pl)) (hS : va_S A H0 H locs) (hA : ∀ q : Nat, H0.size ≤ q → A q)
    (isC isR perm : List Nat) (hC : isC.map (fun i => X[i]?) = cx.map some) (hR : isR.map (fun i => X[i]?) = wr.map some) (hn : va_nd isR = true) (hdis : ∀ i ∈ isR, i ∉ isC)
    (hN : perm.map (fun i => (wr ++ cx')[i]?) = XN.map some) (hnp : va_nd perm = true)
    (kk : ∀ (H1 : Heap) (locs1 : List Loc), va_P D vwCl (XN ++ pl) H1 → va_D A (XN ++ pl) → va_S A H0 H1 locs1 → W p l e R s m args below meth c H1 locs1 cells slots Q (F0 m (pc + 3) ls (o.toList ++ rest))) : W p l e R s m args below meth c H locs cells slots Q (F0 m pc ls st0) := by
  have hF : ∀ q, va_A cx H.size q → A q := by
    intro q hq
    rcases hq with ⟨k, e, h⟩ | h
    · obtain ⟨i, hi, hx⟩ := va_in_of isC hC h
      exact hD.2 i _ (by rw [List.getElem?_append_left (List.getElem?_eq_some_iff.mp hx).1]; exact hx)
    · exact hA q (Nat.le_trans hS.1 h)
  intro T hT Xx
  obtain ⟨v, st₀, t, T', L, h0, X', hL, e1, e2, ⟨⟨hv, hP1, hD1⟩, hz, hk⟩, st⟩ := hr T hT Xx
  cases hv
  rw [h0] at hz hk
  rw [← e1] at hP1 hz hk
  obtain ⟨hPj, hDj⟩ := va_joinQ hP hD isC isR hC hR hn hdis hk hF hP1 hD1
  obtain ⟨t2, a1, b1⟩ := kk T'.heap (locs ++ L) (hPj.part perm hN) (hDj.part perm hnp hN)
    ⟨Nat.le_trans hS.1 hz, fun q h1 h2 => by rw [hk q (Nat.lt_of_lt_of_le h1 hS.1) (fun z => h2 (hF q z))]; exact hS.2.1 q h1 h2, fun q hq => by
      rcases List.mem_append.mp hq with h | h
      · exact hS.2.2 q h
      · exact hF _ (hL q h)⟩ T' rfl X'
  exact ⟨t2, st t2 a1, b1⟩
end CLP
