abbrev WX5_add (cI cJ cZ cB : ClassId) (a_o : Nat) (a_o_rows : Nat) (a_o_seats : Nat) (a_o_occupied : Nat) (v_o_number : Int32) (d_o_rows : (Nat → Int32)) (d_o_seats : (Nat → Int32)) (d_o_occupied : (Nat → Int32)) : va_W := [(a_o, .inr (5, [.ref a_o_rows, .ref a_o_seats, .ref a_o_occupied, .int v_o_number])), (a_o_rows, .inl (cI, (6, .inl d_o_rows))), (a_o_seats, .inl (cI, (6, .inl d_o_seats))), (a_o_occupied, .inl (cZ, (6, .inl d_o_occupied)))]
set_option maxRecDepth 20000 in
theorem iX5_add_X5 : ∀ w ∈ wsX50, w ∈ wsX5_add := by decide +kernel
def fX5_add (v_o_number : Int32) (d_o_rows : (Nat → Int32)) (d_o_seats : (Nat → Int32)) (d_o_occupied : (Nat → Int32)) (x1 : Int32) (x2 : Int32) (x3 : Int32) : Option (Int32 × Int32 × (Nat → Int32) × (Nat → Int32) × (Nat → Int32)) := (if v_o_number < 0 then some ((0 : Int32), v_o_number, d_o_rows, d_o_seats, d_o_occupied) else (if v_o_number < (6 : Int32) then (if v_o_number < 0 ∨ 6 ≤ (v_o_number).toNatClampNeg then none else (if v_o_number < 0 ∨ 6 ≤ (v_o_number).toNatClampNeg then none else (if v_o_number < 0 ∨ 6 ≤ (v_o_number).toNatClampNeg then none else some ((1 : Int32), (v_o_number + (1 : Int32)), (upd d_o_rows ((v_o_number).toNatClampNeg) x1), (upd d_o_seats ((v_o_number).toNatClampNeg) x2), (upd d_o_occupied ((v_o_number).toNatClampNeg) (vp_nar .boolean x3)))))) else some ((0 : Int32), v_o_number, d_o_rows, d_o_seats, d_o_occupied)))
set_option maxRecDepth 100000 in
set_option maxHeartbeats 4000000 in
theorem kX5_add (l : Launch) (D : va_G) (cI cJ cZ cB : ClassId) (a_o : Nat) (a_o_rows : Nat) (a_o_seats : Nat) (a_o_occupied : Nat) (v_o_number : Int32) (d_o_rows : (Nat → Int32)) (d_o_seats : (Nat → Int32)) (d_o_occupied : (Nat → Int32)) (x1 : Int32) (x2 : Int32) (x3 : Int32) (res : Int32 × Int32 × (Nat → Int32) × (Nat → Int32) × (Nat → Int32)) (hf : fX5_add v_o_number d_o_rows d_o_seats d_o_occupied x1 x2 x3 = some res) : Rw l yX5_add wsX5_add ({ frames := 0, cells := 0, slots := 0, locals := 0 } : Room) D (tyL cI cJ cZ cB) [.ref a_o, .int x1, .int x2, .int x3] (WX5_add cI cJ cZ cB a_o a_o_rows a_o_seats a_o_occupied v_o_number d_o_rows d_o_seats d_o_occupied) (some (.int res.1)) (WX5_add cI cJ cZ cB a_o a_o_rows a_o_seats a_o_occupied res.2.1 res.2.2.1 res.2.2.2.1 res.2.2.2.2) := by
  refine Rw.of (cc := cX5_add) (maxL := 4) (ret := (some .boolean)) (own := RX5) (by decide) rfl rfl (Nat.le_of_ble_eq_true rfl) ?_
  intro p e s m below meth c A ls C hK hA hP hD hS hl
  obtain ⟨hx, hb, hr, hml, hts, hown, hlk⟩ := id C
  have hl : lv_has ls 4 [(0, .ref a_o), (1, .int x1), (2, .int x2), (3, .int x3)] := hl
  unfold fX5_add at hf
  refine lv_aload_n hx hb dX5_add_0 rfl (lv_at hl 0 rfl) ?_
  refine va_get (D := D) (ci := 5) (v := .int v_o_number) (C := RX5) (T := TX5) (N := 4) hx hb hts iX5_add_X5 hown hK.1 hP 0 rfl rfl 3 (by decide) (hts (.fieldLink RX5 22 "LoneSeats$Sights" "number" "I") (by decide +kernel)) (fun _ h9 => h9) rfl dX5_add_1 ?_
  refine lv_if_lt (tgt := 16) hx hb dX5_add_4 (by decide) (fun hc => ?_) (fun hc => ?_)
  · have hf := pf_t hc hf
    refine lv_iconst (v := (0 : Int32)) hx hb dX5_add_16 (by decide) ?_
    cases hf
    exact W.zret (v := (0 : Int32)) hx hb hr (nar_b (by decide)) (fun t ht hW => ⟨⟨rfl, by rw [ht]; exact hP, hD⟩, hS.F ht⟩) hS.2.2 dX5_add_17
  · have hf := pf_f hc hf
    refine lv_aload_n hx hb dX5_add_7 rfl (lv_at hl 0 rfl) ?_
    refine va_get (D := D) (ci := 5) (v := .int v_o_number) (C := RX5) (T := TX5) (N := 4) hx hb hts iX5_add_X5 hown hK.1 hP 0 rfl rfl 3 (by decide) (hts (.fieldLink RX5 22 "LoneSeats$Sights" "number" "I") (by decide +kernel)) (fun _ h9 => h9) rfl dX5_add_8 ?_
    refine lv_bipush (v := (6 : Int32)) hx hb dX5_add_11 (by decide) ?_
    refine lv_icmp_lt (tgt := 18) hx hb dX5_add_13 (by decide) (fun hc => ?_) (fun hc => ?_)
    · have hf := pf_t hc hf
      refine lv_aload_n hx hb dX5_add_18 rfl (lv_at hl 0 rfl) ?_
      refine va_get (D := D) (ci := 5) (v := .ref a_o_rows) (C := RX5) (T := TX5) (N := 4) hx hb hts iX5_add_X5 hown hK.1 hP 0 rfl rfl 0 (by decide) (hts (.fieldLink RX5 9 "LoneSeats$Sights" "rows" "[I") (by decide +kernel)) (fun _ h9 => h9) rfl dX5_add_19 ?_
      refine lv_aload_n hx hb dX5_add_22 rfl (lv_at hl 0 rfl) ?_
      refine va_get (D := D) (ci := 5) (v := .int v_o_number) (C := RX5) (T := TX5) (N := 4) hx hb hts iX5_add_X5 hown hK.1 hP 0 rfl rfl 3 (by decide) (hts (.fieldLink RX5 22 "LoneSeats$Sights" "number" "I") (by decide +kernel)) (fun _ h9 => h9) rfl dX5_add_23 ?_
      refine lv_iload_n hx hb dX5_add_26 rfl (lv_at hl 1 rfl) ?_
      obtain ⟨hg1, hf⟩ := pf_x hf
      refine va_iast hx hb hK.1 hP hD hS 1 0 rfl rfl hg1 dX5_add_27 (fun H locs hP hD hS => ?_)
      have hP : va_P D vwCl (WX5_add cI cJ cZ cB a_o a_o_rows a_o_seats a_o_occupied v_o_number (upd d_o_rows ((v_o_number).toNatClampNeg) x1) d_o_seats d_o_occupied) H := hP
      have hD : va_D A (WX5_add cI cJ cZ cB a_o a_o_rows a_o_seats a_o_occupied v_o_number (upd d_o_rows ((v_o_number).toNatClampNeg) x1) d_o_seats d_o_occupied) := hD
      refine lv_aload_n hx hb dX5_add_28 rfl (lv_at hl 0 rfl) ?_
      refine va_get (D := D) (ci := 5) (v := .ref a_o_seats) (C := RX5) (T := TX5) (N := 4) hx hb hts iX5_add_X5 hown hK.1 hP 0 rfl rfl 1 (by decide) (hts (.fieldLink RX5 15 "LoneSeats$Sights" "seats" "[I") (by decide +kernel)) (fun _ h9 => h9) rfl dX5_add_29 ?_
      refine lv_aload_n hx hb dX5_add_32 rfl (lv_at hl 0 rfl) ?_
      refine va_get (D := D) (ci := 5) (v := .int v_o_number) (C := RX5) (T := TX5) (N := 4) hx hb hts iX5_add_X5 hown hK.1 hP 0 rfl rfl 3 (by decide) (hts (.fieldLink RX5 22 "LoneSeats$Sights" "number" "I") (by decide +kernel)) (fun _ h9 => h9) rfl dX5_add_33 ?_
      refine lv_iload_n hx hb dX5_add_36 rfl (lv_at hl 2 rfl) ?_
      obtain ⟨hg2, hf⟩ := pf_x hf
      refine va_iast hx hb hK.1 hP hD hS 2 0 rfl rfl hg2 dX5_add_37 (fun H locs hP hD hS => ?_)
      have hP : va_P D vwCl (WX5_add cI cJ cZ cB a_o a_o_rows a_o_seats a_o_occupied v_o_number (upd d_o_rows ((v_o_number).toNatClampNeg) x1) (upd d_o_seats ((v_o_number).toNatClampNeg) x2) d_o_occupied) H := hP
      have hD : va_D A (WX5_add cI cJ cZ cB a_o a_o_rows a_o_seats a_o_occupied v_o_number (upd d_o_rows ((v_o_number).toNatClampNeg) x1) (upd d_o_seats ((v_o_number).toNatClampNeg) x2) d_o_occupied) := hD
      refine lv_aload_n hx hb dX5_add_38 rfl (lv_at hl 0 rfl) ?_
      refine va_get (D := D) (ci := 5) (v := .ref a_o_occupied) (C := RX5) (T := TX5) (N := 4) hx hb hts iX5_add_X5 hown hK.1 hP 0 rfl rfl 2 (by decide) (hts (.fieldLink RX5 18 "LoneSeats$Sights" "occupied" "[Z") (by decide +kernel)) (fun _ h9 => h9) rfl dX5_add_39 ?_
      refine lv_aload_n hx hb dX5_add_42 rfl (lv_at hl 0 rfl) ?_
      refine va_get (D := D) (ci := 5) (v := .int v_o_number) (C := RX5) (T := TX5) (N := 4) hx hb hts iX5_add_X5 hown hK.1 hP 0 rfl rfl 3 (by decide) (hts (.fieldLink RX5 22 "LoneSeats$Sights" "number" "I") (by decide +kernel)) (fun _ h9 => h9) rfl dX5_add_43 ?_
      refine lv_iload_n hx hb dX5_add_46 rfl (lv_at hl 3 rfl) ?_
      obtain ⟨hg3, hf⟩ := pf_x hf
      refine va_zast hx hb hK.1 hP hD hS 3 2 rfl rfl hg3 dX5_add_47 (fun H locs hP hD hS => ?_)
      have hP : va_P D vwCl (WX5_add cI cJ cZ cB a_o a_o_rows a_o_seats a_o_occupied v_o_number (upd d_o_rows ((v_o_number).toNatClampNeg) x1) (upd d_o_seats ((v_o_number).toNatClampNeg) x2) (upd d_o_occupied ((v_o_number).toNatClampNeg) (vp_nar .boolean x3))) H := hP
      have hD : va_D A (WX5_add cI cJ cZ cB a_o a_o_rows a_o_seats a_o_occupied v_o_number (upd d_o_rows ((v_o_number).toNatClampNeg) x1) (upd d_o_seats ((v_o_number).toNatClampNeg) x2) (upd d_o_occupied ((v_o_number).toNatClampNeg) (vp_nar .boolean x3))) := hD
      refine lv_aload_n hx hb dX5_add_48 rfl (lv_at hl 0 rfl) ?_
      refine lv_dup hx hb dX5_add_49 rfl ?_
      refine va_get (D := D) (ci := 5) (v := .int v_o_number) (C := RX5) (T := TX5) (N := 4) hx hb hts iX5_add_X5 hown hK.1 hP 0 rfl rfl 3 (by decide) (hts (.fieldLink RX5 22 "LoneSeats$Sights" "number" "I") (by decide +kernel)) (fun _ h9 => h9) rfl dX5_add_50 ?_
      refine lv_iconst (v := (1 : Int32)) hx hb dX5_add_53 (by decide) ?_
      refine lv_iadd hx hb dX5_add_54 ?_
      refine va_put (D := D) (ci := 5) (v := .int (v_o_number + (1 : Int32))) (ty := .int) (C := RX5) (T := TX5) (N := 4) hx hb hts iX5_add_X5 tyX5 tyX5_ok nmX5 hown hK.1 hP hD hS 0 rfl rfl 3 (by decide) (hts (.fieldLink RX5 22 "LoneSeats$Sights" "number" "I") (by decide +kernel)) (fun _ h9 => h9) rfl (by decide +kernel) rfl rfl (Nat.le_of_ble_eq_true rfl) dX5_add_55 (fun H locs hP hD hS => ?_)
      have hP : va_P D vwCl (WX5_add cI cJ cZ cB a_o a_o_rows a_o_seats a_o_occupied (v_o_number + (1 : Int32)) (upd d_o_rows ((v_o_number).toNatClampNeg) x1) (upd d_o_seats ((v_o_number).toNatClampNeg) x2) (upd d_o_occupied ((v_o_number).toNatClampNeg) (vp_nar .boolean x3))) H := hP
      have hD : va_D A (WX5_add cI cJ cZ cB a_o a_o_rows a_o_seats a_o_occupied (v_o_number + (1 : Int32)) (upd d_o_rows ((v_o_number).toNatClampNeg) x1) (upd d_o_seats ((v_o_number).toNatClampNeg) x2) (upd d_o_occupied ((v_o_number).toNatClampNeg) (vp_nar .boolean x3))) := hD
      refine lv_iconst (v := (1 : Int32)) hx hb dX5_add_58 (by decide) ?_
      cases hf
      exact W.zret (v := (1 : Int32)) hx hb hr (nar_b (by decide)) (fun t ht hW => ⟨⟨rfl, by rw [ht]; exact hP, hD⟩, hS.F ht⟩) hS.2.2 dX5_add_59
    · have hf := pf_f hc hf
      refine lv_iconst (v := (0 : Int32)) hx hb dX5_add_16 (by decide) ?_
      cases hf
      exact W.zret (v := (0 : Int32)) hx hb hr (nar_b (by decide)) (fun t ht hW => ⟨⟨rfl, by rw [ht]; exact hP, hD⟩, hS.F ht⟩) hS.2.2 dX5_add_17
abbrev WX5_allowAbsence (cI cJ cZ cB : ClassId) (a_o : Nat) (a_o_rows : Nat) (a_o_seats : Nat) (a_o_occupied : Nat) (a_p1 : Nat) (a_p1_prices : Nat) (a_p1_seats : Nat) (a_p1_joined : Nat) (a_p1_views : Nat) (a_p2 : Nat) (a_p2_prices : Nat) (a_p2_free : Nat) (a_p2_sizes : Nat) (a_p2_limits : Nat) (a_p2_places : Nat) (a_p2_paid : Nat) (a_p2_queue : Nat) (v_o_number : Int32) (d_o_rows : (Nat → Int32)) (d_o_seats : (Nat → Int32)) (d_o_occupied : (Nat → Int32)) (v_p1_rows : Int32) (v_p1_awaited : Int32) (d_p1_seats : (Nat → Int32)) (v_p2_asked : Int32) (v_p2_waiting : Int32) (v_p2_fee : Int32) (v_p2_takings : Int32) (d_p2_sizes : (Nat → Int32)) (d_p2_places : (Nat → Int32)) : va_W := [(a_o, .inr (5, [.ref a_o_rows, .ref a_o_seats, .ref a_o_occupied, .int v_o_number])), (a_o_rows, .inl (cI, (6, .inl d_o_rows))), (a_o_seats, .inl (cI, (6, .inl d_o_seats))), (a_o_occupied, .inl (cZ, (6, .inl d_o_occupied))), (a_p1, .inr (4, [.ref a_p1_prices, .ref a_p1_seats, .ref a_p1_joined, .ref a_p1_views, .int v_p1_rows, .int v_p1_awaited])), (a_p1_seats, .inl (cI, (4, .inl d_p1_seats))), (a_p2, .inr (0, [.ref a_p2_prices, .ref a_p2_free, .ref a_p2_sizes, .ref a_p2_limits, .ref a_p2_places, .ref a_p2_paid, .ref a_p2_queue, .int v_p2_asked, .int v_p2_waiting, .int v_p2_fee, .int v_p2_takings])), (a_p2_sizes, .inl (cI, (31, .inl d_p2_sizes))), (a_p2_places, .inl (cI, (31, .inl d_p2_places)))]
set_option maxRecDepth 20000 in
theorem iX5_allowAbsence_X5 : ∀ w ∈ wsX50, w ∈ wsX5_allowAbsence := by decide +kernel
def fX5_allowAbsence_76 (k_3 : Int32 → (Nat → Int32) → (Nat → Int32) → (Nat → Int32) → Int32 → (Nat → Int32) → Int32 → (Nat → Int32) → (Nat → Int32) → Int32 → Int32 → Option (Int32)) (v_o_number : Int32) (d_o_rows : (Nat → Int32)) (d_o_seats : (Nat → Int32)) (d_o_occupied : (Nat → Int32)) (v_p1_rows : Int32) (d_p1_seats : (Nat → Int32)) (v_p2_asked : Int32) (d_p2_sizes : (Nat → Int32)) (d_p2_places : (Nat → Int32)) (x3 : Int32) (x4 : Int32) (k0 : Int32) : Option (Int32) := (if x4 < 0 ∨ 6 ≤ (x4).toNatClampNeg then none else (if k0 = (d_o_occupied (x4).toNatClampNeg) then k_3 v_o_number d_o_rows d_o_seats d_o_occupied v_p1_rows d_p1_seats v_p2_asked d_p2_sizes d_p2_places x3 (x4 + (1 : Int32)) else some (0 : Int32)))
set_option maxRecDepth 100000 in
set_option maxHeartbeats 4000000 in
theorem tX5_allowAbsence_76 {p : Program} {l : Launch} {e : Env} {s : State} {m : MethodId} {args : Array Value} {below : List Frame} {meth : Method} {c : Code} {D : va_G} {cI cJ cZ cB : ClassId} {a_o : Nat} {a_o_rows : Nat} {a_o_seats : Nat} {a_o_occupied : Nat} {a_p1 : Nat} {a_p1_prices : Nat} {a_p1_seats : Nat} {a_p1_joined : Nat} {a_p1_views : Nat} {a_p2 : Nat} {a_p2_prices : Nat} {a_p2_free : Nat} {a_p2_sizes : Nat} {a_p2_limits : Nat} {a_p2_places : Nat} {a_p2_paid : Nat} {a_p2_queue : Nat} (C : Cx p s m args meth c cX5_allowAbsence 7 (some .boolean) wsX5_allowAbsence RX5) (hK : Kw D (tyL cI cJ cZ cB) s) {k_3 : Int32 → (Nat → Int32) → (Nat → Int32) → (Nat → Int32) → Int32 → (Nat → Int32) → Int32 → (Nat → Int32) → (Nat → Int32) → Int32 → Int32 → Option (Int32)} (hk3 : ∀ (v_o_number : Int32) (d_o_rows : (Nat → Int32)) (d_o_seats : (Nat → Int32)) (d_o_occupied : (Nat → Int32)) (v_p1_rows : Int32) (v_p1_awaited : Int32) (d_p1_seats : (Nat → Int32)) (v_p2_asked : Int32) (v_p2_waiting : Int32) (v_p2_fee : Int32) (v_p2_takings : Int32) (d_p2_sizes : (Nat → Int32)) (d_p2_places : (Nat → Int32)) (x3 : Int32) (x4 : Int32) (ls : Array Slot) (res : Int32), va_P D vwCl (WX5_allowAbsence cI cJ cZ cB a_o a_o_rows a_o_seats a_o_occupied a_p1 a_p1_prices a_p1_seats a_p1_joined a_p1_views a_p2 a_p2_prices a_p2_free a_p2_sizes a_p2_limits a_p2_places a_p2_paid a_p2_queue v_o_number d_o_rows d_o_seats d_o_occupied v_p1_rows v_p1_awaited d_p1_seats v_p2_asked v_p2_waiting v_p2_fee v_p2_takings d_p2_sizes d_p2_places) s.heap → lv_has ls 7 [(0, .ref a_o), (1, .ref a_p1), (2, .ref a_p2), (3, .int x3), (4, .int x4)] → k_3 v_o_number d_o_rows d_o_seats d_o_occupied v_p1_rows d_p1_seats v_p2_asked d_p2_sizes d_p2_places x3 x4 = some res → W p l e ({ frames := 4, cells := 0, slots := 0, locals := 87 } : Room) s m args below meth c s.heap [] 0 0 (MQ below (QRo (some (.int res))) args s 0 0 (fun _ => False)) (F0 m 3 ls [])) : ∀ (v_o_number : Int32) (d_o_rows : (Nat → Int32)) (d_o_seats : (Nat → Int32)) (d_o_occupied : (Nat → Int32)) (v_p1_rows : Int32) (v_p1_awaited : Int32) (d_p1_seats : (Nat → Int32)) (v_p2_asked : Int32) (v_p2_waiting : Int32) (v_p2_fee : Int32) (v_p2_takings : Int32) (d_p2_sizes : (Nat → Int32)) (d_p2_places : (Nat → Int32)) (x3 : Int32) (x4 : Int32) (k0 : Int32) (ls : Array Slot) (res : Int32), va_P D vwCl (WX5_allowAbsence cI cJ cZ cB a_o a_o_rows a_o_seats a_o_occupied a_p1 a_p1_prices a_p1_seats a_p1_joined a_p1_views a_p2 a_p2_prices a_p2_free a_p2_sizes a_p2_limits a_p2_places a_p2_paid a_p2_queue v_o_number d_o_rows d_o_seats d_o_occupied v_p1_rows v_p1_awaited d_p1_seats v_p2_asked v_p2_waiting v_p2_fee v_p2_takings d_p2_sizes d_p2_places) s.heap → lv_has ls 7 [(0, .ref a_o), (1, .ref a_p1), (2, .ref a_p2), (3, .int x3), (4, .int x4)] → fX5_allowAbsence_76 k_3 v_o_number d_o_rows d_o_seats d_o_occupied v_p1_rows d_p1_seats v_p2_asked d_p2_sizes d_p2_places x3 x4 k0 = some res → W p l e ({ frames := 4, cells := 0, slots := 0, locals := 87 } : Room) s m args below meth c s.heap [] 0 0 (MQ below (QRo (some (.int res))) args s 0 0 (fun _ => False)) (F0 m 76 ls [.int k0]) := by
  obtain ⟨hx, hb, hr, hml, hts, hown, hlk⟩ := id C
  intro v_o_number d_o_rows d_o_seats d_o_occupied v_p1_rows v_p1_awaited d_p1_seats v_p2_asked v_p2_waiting v_p2_fee v_p2_takings d_p2_sizes d_p2_places x3 x4 k0 ls res hP hl hf
  unfold fX5_allowAbsence_76 at hf
  refine lv_istore (lv' := [(6, .int k0), (0, .ref a_o), (1, .ref a_p1), (2, .ref a_p2), (3, .int x3), (4, .int x4)]) hx hb dX5_allowAbsence_76 hl (by decide) rfl (fun ls hl => ?_)
  refine lv_iload hx hb dX5_allowAbsence_78 (lv_at hl 0 rfl) ?_
  refine lv_aload_n hx hb dX5_allowAbsence_80 rfl (lv_at hl 1 rfl) ?_
  refine va_get (D := D) (ci := 5) (v := .ref a_o_occupied) (C := RX5) (T := TX5) (N := 4) hx hb hts iX5_allowAbsence_X5 hown hK.1 hP 0 rfl rfl 2 (by decide) (hts (.fieldLink RX5 18 "LoneSeats$Sights" "occupied" "[Z") (by decide +kernel)) (fun _ h9 => h9) rfl dX5_allowAbsence_81 ?_
  refine lv_iload hx hb dX5_allowAbsence_84 (lv_at hl 5 rfl) ?_
  obtain ⟨hg1, hf⟩ := pf_x hf
  refine va_zald hx hb hK.1 hP 3 2 rfl rfl hg1 dX5_allowAbsence_86 ?_
  refine lv_icmp_eq (tgt := 92) hx hb dX5_allowAbsence_87 (by decide) (fun hc => ?_) (fun hc => ?_)
  · have hf := pf_t hc hf
    refine lv_iinc (v := (x4 + (1 : Int32))) (lv' := [(4, .int (x4 + (1 : Int32))), (6, .int k0), (0, .ref a_o), (1, .ref a_p1), (2, .ref a_p2), (3, .int x3)]) hx hb dX5_allowAbsence_92 hl (k := 5) rfl rfl (by decide) rfl (fun ls hl => ?_)
    refine lv_goto (tgt := 3) hx hb dX5_allowAbsence_95 (by decide) ?_
    exact hk3 v_o_number d_o_rows d_o_seats d_o_occupied v_p1_rows v_p1_awaited d_p1_seats v_p2_asked v_p2_waiting v_p2_fee v_p2_takings d_p2_sizes d_p2_places x3 (x4 + (1 : Int32)) ls _ hP (lv_sub hl [2, 3, 4, 5, 0] rfl) hf
  · have hf := pf_f hc hf
    refine lv_iconst (v := (0 : Int32)) hx hb dX5_allowAbsence_90 (by decide) ?_
    cases hf
    exact W.zret (v := (0 : Int32)) hx hb hr (nar_b (by decide)) (fun t ht hW => ⟨rfl, ht⟩) (fun _ h => absurd h List.not_mem_nil) dX5_allowAbsence_91
def fX5_allowAbsence_75 (k_3 : Int32 → (Nat → Int32) → (Nat → Int32) → (Nat → Int32) → Int32 → (Nat → Int32) → Int32 → (Nat → Int32) → (Nat → Int32) → Int32 → Int32 → Option (Int32)) (v_o_number : Int32) (d_o_rows : (Nat → Int32)) (d_o_seats : (Nat → Int32)) (d_o_occupied : (Nat → Int32)) (v_p1_rows : Int32) (d_p1_seats : (Nat → Int32)) (v_p2_asked : Int32) (d_p2_sizes : (Nat → Int32)) (d_p2_places : (Nat → Int32)) (x3 : Int32) (x4 : Int32) : Option (Int32) := fX5_allowAbsence_76 k_3 v_o_number d_o_rows d_o_seats d_o_occupied v_p1_rows d_p1_seats v_p2_asked d_p2_sizes d_p2_places x3 x4 (0 : Int32)
set_option maxRecDepth 100000 in
set_option maxHeartbeats 4000000 in
theorem tX5_allowAbsence_75 {p : Program} {l : Launch} {e : Env} {s : State} {m : MethodId} {args : Array Value} {below : List Frame} {meth : Method} {c : Code} {D : va_G} {cI cJ cZ cB : ClassId} {a_o : Nat} {a_o_rows : Nat} {a_o_seats : Nat} {a_o_occupied : Nat} {a_p1 : Nat} {a_p1_prices : Nat} {a_p1_seats : Nat} {a_p1_joined : Nat} {a_p1_views : Nat} {a_p2 : Nat} {a_p2_prices : Nat} {a_p2_free : Nat} {a_p2_sizes : Nat} {a_p2_limits : Nat} {a_p2_places : Nat} {a_p2_paid : Nat} {a_p2_queue : Nat} (C : Cx p s m args meth c cX5_allowAbsence 7 (some .boolean) wsX5_allowAbsence RX5) (hK : Kw D (tyL cI cJ cZ cB) s) {k_3 : Int32 → (Nat → Int32) → (Nat → Int32) → (Nat → Int32) → Int32 → (Nat → Int32) → Int32 → (Nat → Int32) → (Nat → Int32) → Int32 → Int32 → Option (Int32)} (hk3 : ∀ (v_o_number : Int32) (d_o_rows : (Nat → Int32)) (d_o_seats : (Nat → Int32)) (d_o_occupied : (Nat → Int32)) (v_p1_rows : Int32) (v_p1_awaited : Int32) (d_p1_seats : (Nat → Int32)) (v_p2_asked : Int32) (v_p2_waiting : Int32) (v_p2_fee : Int32) (v_p2_takings : Int32) (d_p2_sizes : (Nat → Int32)) (d_p2_places : (Nat → Int32)) (x3 : Int32) (x4 : Int32) (ls : Array Slot) (res : Int32), va_P D vwCl (WX5_allowAbsence cI cJ cZ cB a_o a_o_rows a_o_seats a_o_occupied a_p1 a_p1_prices a_p1_seats a_p1_joined a_p1_views a_p2 a_p2_prices a_p2_free a_p2_sizes a_p2_limits a_p2_places a_p2_paid a_p2_queue v_o_number d_o_rows d_o_seats d_o_occupied v_p1_rows v_p1_awaited d_p1_seats v_p2_asked v_p2_waiting v_p2_fee v_p2_takings d_p2_sizes d_p2_places) s.heap → lv_has ls 7 [(0, .ref a_o), (1, .ref a_p1), (2, .ref a_p2), (3, .int x3), (4, .int x4)] → k_3 v_o_number d_o_rows d_o_seats d_o_occupied v_p1_rows d_p1_seats v_p2_asked d_p2_sizes d_p2_places x3 x4 = some res → W p l e ({ frames := 4, cells := 0, slots := 0, locals := 87 } : Room) s m args below meth c s.heap [] 0 0 (MQ below (QRo (some (.int res))) args s 0 0 (fun _ => False)) (F0 m 3 ls [])) : ∀ (v_o_number : Int32) (d_o_rows : (Nat → Int32)) (d_o_seats : (Nat → Int32)) (d_o_occupied : (Nat → Int32)) (v_p1_rows : Int32) (v_p1_awaited : Int32) (d_p1_seats : (Nat → Int32)) (v_p2_asked : Int32) (v_p2_waiting : Int32) (v_p2_fee : Int32) (v_p2_takings : Int32) (d_p2_sizes : (Nat → Int32)) (d_p2_places : (Nat → Int32)) (x3 : Int32) (x4 : Int32) (ls : Array Slot) (res : Int32), va_P D vwCl (WX5_allowAbsence cI cJ cZ cB a_o a_o_rows a_o_seats a_o_occupied a_p1 a_p1_prices a_p1_seats a_p1_joined a_p1_views a_p2 a_p2_prices a_p2_free a_p2_sizes a_p2_limits a_p2_places a_p2_paid a_p2_queue v_o_number d_o_rows d_o_seats d_o_occupied v_p1_rows v_p1_awaited d_p1_seats v_p2_asked v_p2_waiting v_p2_fee v_p2_takings d_p2_sizes d_p2_places) s.heap → lv_has ls 7 [(0, .ref a_o), (1, .ref a_p1), (2, .ref a_p2), (3, .int x3), (4, .int x4)] → fX5_allowAbsence_75 k_3 v_o_number d_o_rows d_o_seats d_o_occupied v_p1_rows d_p1_seats v_p2_asked d_p2_sizes d_p2_places x3 x4 = some res → W p l e ({ frames := 4, cells := 0, slots := 0, locals := 87 } : Room) s m args below meth c s.heap [] 0 0 (MQ below (QRo (some (.int res))) args s 0 0 (fun _ => False)) (F0 m 75 ls []) := by
  obtain ⟨hx, hb, hr, hml, hts, hown, hlk⟩ := id C
  intro v_o_number d_o_rows d_o_seats d_o_occupied v_p1_rows v_p1_awaited d_p1_seats v_p2_asked v_p2_waiting v_p2_fee v_p2_takings d_p2_sizes d_p2_places x3 x4 ls res hP hl hf
  unfold fX5_allowAbsence_75 at hf
  refine lv_iconst (v := (0 : Int32)) hx hb dX5_allowAbsence_75 (by decide) ?_
  exact tX5_allowAbsence_76 C hK hk3 v_o_number d_o_rows d_o_seats d_o_occupied v_p1_rows v_p1_awaited d_p1_seats v_p2_asked v_p2_waiting v_p2_fee v_p2_takings d_p2_sizes d_p2_places x3 x4 (0 : Int32) ls _ hP (lv_sub hl [0, 1, 2, 3, 4] rfl) hf
def fX5_allowAbsence_3 : Nat → Int32 → (Nat → Int32) → (Nat → Int32) → (Nat → Int32) → Int32 → (Nat → Int32) → Int32 → (Nat → Int32) → (Nat → Int32) → Int32 → Int32 → Option (Int32)
  | 0, _, _, _, _, _, _, _, _, _, _, _ => none
  | n + 1, v_o_number, d_o_rows, d_o_seats, d_o_occupied, v_p1_rows, d_p1_seats, v_p2_asked, d_p2_sizes, d_p2_places, x3, x4 => (if v_o_number ≤ x4 then some (1 : Int32) else (if (6 : Int32) ≤ x4 then some (1 : Int32) else (if x4 < 0 ∨ 6 ≤ (x4).toNatClampNeg then none else (if x4 < 0 ∨ 6 ≤ (x4).toNatClampNeg then none else ((fX4_hasSeat v_p1_rows d_p1_seats (d_o_rows (x4).toNatClampNeg) (d_o_seats (x4).toNatClampNeg)).bind fun q3 => (if q3 = 0 then fX5_allowAbsence_3 n v_o_number d_o_rows d_o_seats d_o_occupied v_p1_rows d_p1_seats v_p2_asked d_p2_sizes d_p2_places x3 (x4 + (1 : Int32)) else (if x4 < 0 ∨ 6 ≤ (x4).toNatClampNeg then none else (if x4 < 0 ∨ 6 ≤ (x4).toNatClampNeg then none else ((fX0_takerOf v_p2_asked d_p2_sizes d_p2_places (d_o_rows (x4).toNatClampNeg) (d_o_seats (x4).toNatClampNeg)).bind fun q7 => (if q7 = 0 then fX5_allowAbsence_75 (fX5_allowAbsence_3 n) v_o_number d_o_rows d_o_seats d_o_occupied v_p1_rows d_p1_seats v_p2_asked d_p2_sizes d_p2_places x3 x4 else (if q7 = x3 then fX5_allowAbsence_75 (fX5_allowAbsence_3 n) v_o_number d_o_rows d_o_seats d_o_occupied v_p1_rows d_p1_seats v_p2_asked d_p2_sizes d_p2_places x3 x4 else fX5_allowAbsence_76 (fX5_allowAbsence_3 n) v_o_number d_o_rows d_o_seats d_o_occupied v_p1_rows d_p1_seats v_p2_asked d_p2_sizes d_p2_places x3 x4 (1 : Int32))))))))))))
set_option maxRecDepth 100000 in
set_option maxHeartbeats 4000000 in
theorem tX5_allowAbsence_3 {p : Program} {l : Launch} {e : Env} {s : State} {m : MethodId} {args : Array Value} {below : List Frame} {meth : Method} {c : Code} {D : va_G} {cI cJ cZ cB : ClassId} {a_o : Nat} {a_o_rows : Nat} {a_o_seats : Nat} {a_o_occupied : Nat} {a_p1 : Nat} {a_p1_prices : Nat} {a_p1_seats : Nat} {a_p1_joined : Nat} {a_p1_views : Nat} {a_p2 : Nat} {a_p2_prices : Nat} {a_p2_free : Nat} {a_p2_sizes : Nat} {a_p2_limits : Nat} {a_p2_places : Nat} {a_p2_paid : Nat} {a_p2_queue : Nat} (C : Cx p s m args meth c cX5_allowAbsence 7 (some .boolean) wsX5_allowAbsence RX5) (hK : Kw D (tyL cI cJ cZ cB) s) : ∀ (n : Nat), ∀ (v_o_number : Int32) (d_o_rows : (Nat → Int32)) (d_o_seats : (Nat → Int32)) (d_o_occupied : (Nat → Int32)) (v_p1_rows : Int32) (v_p1_awaited : Int32) (d_p1_seats : (Nat → Int32)) (v_p2_asked : Int32) (v_p2_waiting : Int32) (v_p2_fee : Int32) (v_p2_takings : Int32) (d_p2_sizes : (Nat → Int32)) (d_p2_places : (Nat → Int32)) (x3 : Int32) (x4 : Int32) (ls : Array Slot) (res : Int32), va_P D vwCl (WX5_allowAbsence cI cJ cZ cB a_o a_o_rows a_o_seats a_o_occupied a_p1 a_p1_prices a_p1_seats a_p1_joined a_p1_views a_p2 a_p2_prices a_p2_free a_p2_sizes a_p2_limits a_p2_places a_p2_paid a_p2_queue v_o_number d_o_rows d_o_seats d_o_occupied v_p1_rows v_p1_awaited d_p1_seats v_p2_asked v_p2_waiting v_p2_fee v_p2_takings d_p2_sizes d_p2_places) s.heap → lv_has ls 7 [(0, .ref a_o), (1, .ref a_p1), (2, .ref a_p2), (3, .int x3), (4, .int x4)] → fX5_allowAbsence_3 n v_o_number d_o_rows d_o_seats d_o_occupied v_p1_rows d_p1_seats v_p2_asked d_p2_sizes d_p2_places x3 x4 = some res → W p l e ({ frames := 4, cells := 0, slots := 0, locals := 87 } : Room) s m args below meth c s.heap [] 0 0 (MQ below (QRo (some (.int res))) args s 0 0 (fun _ => False)) (F0 m 3 ls []) := by
  obtain ⟨hx, hb, hr, hml, hts, hown, hlk⟩ := id C
  intro n
  induction n with
  | zero =>
    intro v_o_number d_o_rows d_o_seats d_o_occupied v_p1_rows v_p1_awaited d_p1_seats v_p2_asked v_p2_waiting v_p2_fee v_p2_takings d_p2_sizes d_p2_places x3 x4 ls res hP hl hf
    rw [fX5_allowAbsence_3] at hf
    cases hf
  | succ n ih =>
    intro v_o_number d_o_rows d_o_seats d_o_occupied v_p1_rows v_p1_awaited d_p1_seats v_p2_asked v_p2_waiting v_p2_fee v_p2_takings d_p2_sizes d_p2_places x3 x4 ls res hP hl hf
    rw [fX5_allowAbsence_3] at hf
    refine lv_iload hx hb dX5_allowAbsence_3 (lv_at hl 4 rfl) ?_
    refine lv_aload_n hx hb dX5_allowAbsence_5 rfl (lv_at hl 0 rfl) ?_
    refine va_get (D := D) (ci := 5) (v := .int v_o_number) (C := RX5) (T := TX5) (N := 4) hx hb hts iX5_allowAbsence_X5 hown hK.1 hP 0 rfl rfl 3 (by decide) (hts (.fieldLink RX5 22 "LoneSeats$Sights" "number" "I") (by decide +kernel)) (fun _ h9 => h9) rfl dX5_allowAbsence_6 ?_
    refine lv_icmp_ge (tgt := 98) hx hb dX5_allowAbsence_9 (by decide) (fun hc => ?_) (fun hc => ?_)
    · have hf := pf_t hc hf
      refine lv_iconst (v := (1 : Int32)) hx hb dX5_allowAbsence_98 (by decide) ?_
      cases hf
      exact W.zret (v := (1 : Int32)) hx hb hr (nar_b (by decide)) (fun t ht hW => ⟨rfl, ht⟩) (fun _ h => absurd h List.not_mem_nil) dX5_allowAbsence_99
    · have hf := pf_f hc hf
      refine lv_iload hx hb dX5_allowAbsence_12 (lv_at hl 4 rfl) ?_
      refine lv_bipush (v := (6 : Int32)) hx hb dX5_allowAbsence_14 (by decide) ?_
      refine lv_icmp_ge (tgt := 98) hx hb dX5_allowAbsence_16 (by decide) (fun hc => ?_) (fun hc => ?_)
      · have hf := pf_t hc hf
        refine lv_iconst (v := (1 : Int32)) hx hb dX5_allowAbsence_98 (by decide) ?_
        cases hf
        exact W.zret (v := (1 : Int32)) hx hb hr (nar_b (by decide)) (fun t ht hW => ⟨rfl, ht⟩) (fun _ h => absurd h List.not_mem_nil) dX5_allowAbsence_99
      · have hf := pf_f hc hf
        refine lv_aload_n hx hb dX5_allowAbsence_19 rfl (lv_at hl 1 rfl) ?_
        refine lv_aload_n hx hb dX5_allowAbsence_20 rfl (lv_at hl 0 rfl) ?_
        refine va_get (D := D) (ci := 5) (v := .ref a_o_rows) (C := RX5) (T := TX5) (N := 4) hx hb hts iX5_allowAbsence_X5 hown hK.1 hP 0 rfl rfl 0 (by decide) (hts (.fieldLink RX5 9 "LoneSeats$Sights" "rows" "[I") (by decide +kernel)) (fun _ h9 => h9) rfl dX5_allowAbsence_21 ?_
        refine lv_iload hx hb dX5_allowAbsence_24 (lv_at hl 4 rfl) ?_
        obtain ⟨hg1, hf⟩ := pf_x hf
        refine va_iald hx hb hK.1 hP 1 0 rfl rfl hg1 dX5_allowAbsence_26 ?_
        refine lv_aload_n hx hb dX5_allowAbsence_27 rfl (lv_at hl 0 rfl) ?_
        refine va_get (D := D) (ci := 5) (v := .ref a_o_seats) (C := RX5) (T := TX5) (N := 4) hx hb hts iX5_allowAbsence_X5 hown hK.1 hP 0 rfl rfl 1 (by decide) (hts (.fieldLink RX5 15 "LoneSeats$Sights" "seats" "[I") (by decide +kernel)) (fun _ h9 => h9) rfl dX5_allowAbsence_28 ?_
        refine lv_iload hx hb dX5_allowAbsence_31 (lv_at hl 4 rfl) ?_
        obtain ⟨hg2, hf⟩ := pf_x hf
        refine va_iald hx hb hK.1 hP 2 0 rfl rfl hg2 dX5_allowAbsence_33 ?_
        obtain ⟨q3, hq4, hf⟩ := pf_b hf
        have hPc := hP.sub (ws' := (WX4_hasSeat cI cJ cZ cB a_p1 a_p1_prices a_p1_seats a_p1_joined a_p1_views v_p1_rows v_p1_awaited d_p1_seats)) [4, 5] rfl
        refine cl_roi (va_runV (As := [.int (d_o_rows (x4).toNatClampNeg), .int (d_o_seats (x4).toNatClampNeg)]) (rest := []) ⟨hx, hb, hml, hown, hts⟩ (kX4_hasSeat l D cI cJ cZ cB a_p1 a_p1_prices a_p1_seats a_p1_joined a_p1_views v_p1_rows v_p1_awaited d_p1_seats (d_o_rows (x4).toNatClampNeg) (d_o_seats (x4).toNatClampNeg) q3 hq4) (cwV 2 hts gX5_allowAbsence_X4_hasSeat rfl rfl rfl (by decide +kernel) ⟨Nat.le_of_ble_eq_true rfl, Nat.le_of_ble_eq_true rfl⟩) ⟨PRo.blind, va_recv hK.1 hPc (ci := 4) (q0 := 0) rfl rfl, PRo.at hK hPc⟩ rfl rfl hl.1 rfl (lv_room (Nat.le_of_ble_eq_true rfl)) dX5_allowAbsence_34 ⟨Nat.zero_le _, Nat.zero_le _⟩) ?_
        refine lv_if_eq (tgt := 92) hx hb dX5_allowAbsence_37 (by decide) (fun hc => ?_) (fun hc => ?_)
        · have hf := pf_t hc hf
          refine lv_iinc (v := (x4 + (1 : Int32))) (lv' := [(4, .int (x4 + (1 : Int32))), (0, .ref a_o), (1, .ref a_p1), (2, .ref a_p2), (3, .int x3)]) hx hb dX5_allowAbsence_92 hl (k := 4) rfl rfl (by decide) rfl (fun ls hl => ?_)
          refine lv_goto (tgt := 3) hx hb dX5_allowAbsence_95 (by decide) ?_
          exact ih v_o_number d_o_rows d_o_seats d_o_occupied v_p1_rows v_p1_awaited d_p1_seats v_p2_asked v_p2_waiting v_p2_fee v_p2_takings d_p2_sizes d_p2_places x3 (x4 + (1 : Int32)) ls _ hP (lv_sub hl [1, 2, 3, 4, 0] rfl) hf
        · have hf := pf_f hc hf
          refine lv_aload_n hx hb dX5_allowAbsence_40 rfl (lv_at hl 2 rfl) ?_
          refine lv_aload_n hx hb dX5_allowAbsence_41 rfl (lv_at hl 0 rfl) ?_
          refine va_get (D := D) (ci := 5) (v := .ref a_o_rows) (C := RX5) (T := TX5) (N := 4) hx hb hts iX5_allowAbsence_X5 hown hK.1 hP 0 rfl rfl 0 (by decide) (hts (.fieldLink RX5 9 "LoneSeats$Sights" "rows" "[I") (by decide +kernel)) (fun _ h9 => h9) rfl dX5_allowAbsence_42 ?_
          refine lv_iload hx hb dX5_allowAbsence_45 (lv_at hl 4 rfl) ?_
          obtain ⟨hg5, hf⟩ := pf_x hf
          refine va_iald hx hb hK.1 hP 1 0 rfl rfl hg5 dX5_allowAbsence_47 ?_
          refine lv_aload_n hx hb dX5_allowAbsence_48 rfl (lv_at hl 0 rfl) ?_
          refine va_get (D := D) (ci := 5) (v := .ref a_o_seats) (C := RX5) (T := TX5) (N := 4) hx hb hts iX5_allowAbsence_X5 hown hK.1 hP 0 rfl rfl 1 (by decide) (hts (.fieldLink RX5 15 "LoneSeats$Sights" "seats" "[I") (by decide +kernel)) (fun _ h9 => h9) rfl dX5_allowAbsence_49 ?_
          refine lv_iload hx hb dX5_allowAbsence_52 (lv_at hl 4 rfl) ?_
          obtain ⟨hg6, hf⟩ := pf_x hf
          refine va_iald hx hb hK.1 hP 2 0 rfl rfl hg6 dX5_allowAbsence_54 ?_
          obtain ⟨q7, hq8, hf⟩ := pf_b hf
          have hPc := hP.sub (ws' := (WX0_takerOf cI cJ cZ cB a_p2 a_p2_prices a_p2_free a_p2_sizes a_p2_limits a_p2_places a_p2_paid a_p2_queue v_p2_asked v_p2_waiting v_p2_fee v_p2_takings d_p2_sizes d_p2_places)) [6, 7, 8] rfl
          refine cl_roi (va_runV (As := [.int (d_o_rows (x4).toNatClampNeg), .int (d_o_seats (x4).toNatClampNeg)]) (rest := []) ⟨hx, hb, hml, hown, hts⟩ (kX0_takerOf l D cI cJ cZ cB a_p2 a_p2_prices a_p2_free a_p2_sizes a_p2_limits a_p2_places a_p2_paid a_p2_queue v_p2_asked v_p2_waiting v_p2_fee v_p2_takings d_p2_sizes d_p2_places (d_o_rows (x4).toNatClampNeg) (d_o_seats (x4).toNatClampNeg) q7 hq8) (cwV 2 hts gX5_allowAbsence_X0_takerOf rfl rfl rfl (by decide +kernel) ⟨Nat.le_of_ble_eq_true rfl, Nat.le_of_ble_eq_true rfl⟩) ⟨PRo.blind, va_recv hK.1 hPc (ci := 0) (q0 := 0) rfl rfl, PRo.at hK hPc⟩ rfl rfl hl.1 rfl (lv_room (Nat.le_of_ble_eq_true rfl)) dX5_allowAbsence_55 ⟨Nat.zero_le _, Nat.zero_le _⟩) ?_
          refine lv_istore (lv' := [(5, .int q7), (0, .ref a_o), (1, .ref a_p1), (2, .ref a_p2), (3, .int x3), (4, .int x4)]) hx hb dX5_allowAbsence_58 hl (by decide) rfl (fun ls hl => ?_)
          refine lv_iload hx hb dX5_allowAbsence_60 (lv_at hl 0 rfl) ?_
          refine lv_if_eq (tgt := 75) hx hb dX5_allowAbsence_62 (by decide) (fun hc => ?_) (fun hc => ?_)
          · have hf := pf_t hc hf
            exact tX5_allowAbsence_75 C hK ih v_o_number d_o_rows d_o_seats d_o_occupied v_p1_rows v_p1_awaited d_p1_seats v_p2_asked v_p2_waiting v_p2_fee v_p2_takings d_p2_sizes d_p2_places x3 x4 ls _ hP (lv_sub hl [1, 2, 3, 4, 5] rfl) hf
          · have hf := pf_f hc hf
            refine lv_iload hx hb dX5_allowAbsence_65 (lv_at hl 0 rfl) ?_
            refine lv_iload_n hx hb dX5_allowAbsence_67 rfl (lv_at hl 4 rfl) ?_
            refine lv_icmp_eq (tgt := 75) hx hb dX5_allowAbsence_68 (by decide) (fun hc => ?_) (fun hc => ?_)
            · have hf := pf_t hc hf
              exact tX5_allowAbsence_75 C hK ih v_o_number d_o_rows d_o_seats d_o_occupied v_p1_rows v_p1_awaited d_p1_seats v_p2_asked v_p2_waiting v_p2_fee v_p2_takings d_p2_sizes d_p2_places x3 x4 ls _ hP (lv_sub hl [1, 2, 3, 4, 5] rfl) hf
            · have hf := pf_f hc hf
              refine lv_iconst (v := (1 : Int32)) hx hb dX5_allowAbsence_71 (by decide) ?_
              refine lv_goto (tgt := 76) hx hb dX5_allowAbsence_72 (by decide) ?_
              exact tX5_allowAbsence_76 C hK ih v_o_number d_o_rows d_o_seats d_o_occupied v_p1_rows v_p1_awaited d_p1_seats v_p2_asked v_p2_waiting v_p2_fee v_p2_takings d_p2_sizes d_p2_places x3 x4 (1 : Int32) ls _ hP (lv_sub hl [1, 2, 3, 4, 5] rfl) hf
def fX5_allowAbsence (v_o_number : Int32) (d_o_rows : (Nat → Int32)) (d_o_seats : (Nat → Int32)) (d_o_occupied : (Nat → Int32)) (v_p1_rows : Int32) (d_p1_seats : (Nat → Int32)) (v_p2_asked : Int32) (d_p2_sizes : (Nat → Int32)) (d_p2_places : (Nat → Int32)) (x3 : Int32) : Option (Int32) := fX5_allowAbsence_3 FU v_o_number d_o_rows d_o_seats d_o_occupied v_p1_rows d_p1_seats v_p2_asked d_p2_sizes d_p2_places x3 (0 : Int32)
set_option maxRecDepth 100000 in
set_option maxHeartbeats 4000000 in
theorem kX5_allowAbsence (l : Launch) (D : va_G) (cI cJ cZ cB : ClassId) (a_o : Nat) (a_o_rows : Nat) (a_o_seats : Nat) (a_o_occupied : Nat) (a_p1 : Nat) (a_p1_prices : Nat) (a_p1_seats : Nat) (a_p1_joined : Nat) (a_p1_views : Nat) (a_p2 : Nat) (a_p2_prices : Nat) (a_p2_free : Nat) (a_p2_sizes : Nat) (a_p2_limits : Nat) (a_p2_places : Nat) (a_p2_paid : Nat) (a_p2_queue : Nat) (v_o_number : Int32) (d_o_rows : (Nat → Int32)) (d_o_seats : (Nat → Int32)) (d_o_occupied : (Nat → Int32)) (v_p1_rows : Int32) (v_p1_awaited : Int32) (d_p1_seats : (Nat → Int32)) (v_p2_asked : Int32) (v_p2_waiting : Int32) (v_p2_fee : Int32) (v_p2_takings : Int32) (d_p2_sizes : (Nat → Int32)) (d_p2_places : (Nat → Int32)) (x3 : Int32) (res : Int32) (hf : fX5_allowAbsence v_o_number d_o_rows d_o_seats d_o_occupied v_p1_rows d_p1_seats v_p2_asked d_p2_sizes d_p2_places x3 = some res) : Ro l yX5_allowAbsence wsX5_allowAbsence ({ frames := 4, cells := 0, slots := 0, locals := 87 } : Room) D (tyL cI cJ cZ cB) [.ref a_o, .ref a_p1, .ref a_p2, .int x3] (WX5_allowAbsence cI cJ cZ cB a_o a_o_rows a_o_seats a_o_occupied a_p1 a_p1_prices a_p1_seats a_p1_joined a_p1_views a_p2 a_p2_prices a_p2_free a_p2_sizes a_p2_limits a_p2_places a_p2_paid a_p2_queue v_o_number d_o_rows d_o_seats d_o_occupied v_p1_rows v_p1_awaited d_p1_seats v_p2_asked v_p2_waiting v_p2_fee v_p2_takings d_p2_sizes d_p2_places) (some (.int res)) := by
  refine Ro.of (cc := cX5_allowAbsence) (maxL := 7) (ret := (some .boolean)) (own := RX5) (by decide) rfl rfl (Nat.le_of_ble_eq_true rfl) ?_
  intro p e s m below meth c ls C hK hP hl
  obtain ⟨hx, hb, hr, hml, hts, hown, hlk⟩ := id C
  have hl : lv_has ls 7 [(0, .ref a_o), (1, .ref a_p1), (2, .ref a_p2), (3, .int x3)] := hl
  unfold fX5_allowAbsence at hf
  refine lv_iconst (v := (0 : Int32)) hx hb dX5_allowAbsence_0 (by decide) ?_
  refine lv_istore (lv' := [(4, .int (0 : Int32)), (0, .ref a_o), (1, .ref a_p1), (2, .ref a_p2), (3, .int x3)]) hx hb dX5_allowAbsence_1 hl (by decide) rfl (fun ls hl => ?_)
  exact tX5_allowAbsence_3 C hK  FU v_o_number d_o_rows d_o_seats d_o_occupied v_p1_rows v_p1_awaited d_p1_seats v_p2_asked v_p2_waiting v_p2_fee v_p2_takings d_p2_sizes d_p2_places x3 (0 : Int32) ls _ hP (lv_sub hl [1, 2, 3, 4, 0] rfl) hf
abbrev WX6_has (cI cJ cZ cB : ClassId) (a_o : Nat) (a_o_kept : Nat) (a_o_filled : Nat) : va_W := [(a_o, .inr (6, [.ref a_o_kept, .ref a_o_filled]))]
def fX6_has (x1 : Int32) : Option (Int32) := (if x1 < 0 then some (0 : Int32) else (if (2 : Int32) ≤ x1 then some (0 : Int32) else some (1 : Int32)))
set_option maxRecDepth 100000 in
set_option maxHeartbeats 4000000 in
theorem kX6_has (l : Launch) (D : va_G) (cI cJ cZ cB : ClassId) (a_o : Nat) (a_o_kept : Nat) (a_o_filled : Nat) (x1 : Int32) (res : Int32) (hf : fX6_has x1 = some res) : Ro l yX6_has wsX6_has ({ frames := 0, cells := 0, slots := 0, locals := 0 } : Room) D (tyL cI cJ cZ cB) [.ref a_o, .int x1] (WX6_has cI cJ cZ cB a_o a_o_kept a_o_filled) (some (.int res)) := by
  refine Ro.of (cc := cX6_has) (maxL := 2) (ret := (some .boolean)) (own := RX6) (by decide) rfl rfl (Nat.le_of_ble_eq_true rfl) ?_
  intro p e s m below meth c ls C hK hP hl
  obtain ⟨hx, hb, hr, hml, hts, hown, hlk⟩ := id C
  have hl : lv_has ls 2 [(0, .ref a_o), (1, .int x1)] := hl
  unfold fX6_has at hf
  refine lv_iload_n hx hb dX6_has_0 rfl (lv_at hl 1 rfl) ?_
  refine lv_if_lt (tgt := 13) hx hb dX6_has_1 (by decide) (fun hc => ?_) (fun hc => ?_)
  · have hf := pf_t hc hf
    refine lv_iconst (v := (0 : Int32)) hx hb dX6_has_13 (by decide) ?_
    cases hf
    exact W.zret (v := (0 : Int32)) hx hb hr (nar_b (by decide)) (fun t ht hW => ⟨rfl, ht⟩) (fun _ h => absurd h List.not_mem_nil) dX6_has_14
  · have hf := pf_f hc hf
    refine lv_iload_n hx hb dX6_has_4 rfl (lv_at hl 1 rfl) ?_
    refine lv_iconst (v := (2 : Int32)) hx hb dX6_has_5 (by decide) ?_
    refine lv_icmp_ge (tgt := 13) hx hb dX6_has_6 (by decide) (fun hc => ?_) (fun hc => ?_)
    · have hf := pf_t hc hf
      refine lv_iconst (v := (0 : Int32)) hx hb dX6_has_13 (by decide) ?_
      cases hf
      exact W.zret (v := (0 : Int32)) hx hb hr (nar_b (by decide)) (fun t ht hW => ⟨rfl, ht⟩) (fun _ h => absurd h List.not_mem_nil) dX6_has_14
    · have hf := pf_f hc hf
      refine lv_iconst (v := (1 : Int32)) hx hb dX6_has_9 (by decide) ?_
      refine lv_goto (tgt := 14) hx hb dX6_has_10 (by decide) ?_
      cases hf
      exact W.zret (v := (1 : Int32)) hx hb hr (nar_b (by decide)) (fun t ht hW => ⟨rfl, ht⟩) (fun _ h => absurd h List.not_mem_nil) dX6_has_14
abbrev WX6_isFilled (cI cJ cZ cB : ClassId) (a_o : Nat) (a_o_kept : Nat) (a_o_filled : Nat) (d_o_filled : (Nat → Int32)) : va_W := [(a_o, .inr (6, [.ref a_o_kept, .ref a_o_filled])), (a_o_filled, .inl (cZ, (2, .inl d_o_filled)))]
set_option maxRecDepth 20000 in
theorem iX6_isFilled_X6 : ∀ w ∈ wsX60, w ∈ wsX6_isFilled := by decide +kernel
def fX6_isFilled (d_o_filled : (Nat → Int32)) (x1 : Int32) : Option (Int32) := ((fX6_has x1).bind fun q1 => (if q1 = 0 then some (0 : Int32) else (if x1 < 0 ∨ 2 ≤ (x1).toNatClampNeg then none else (if (d_o_filled (x1).toNatClampNeg) = 0 then some (0 : Int32) else some (1 : Int32)))))
set_option maxRecDepth 100000 in
set_option maxHeartbeats 4000000 in
theorem kX6_isFilled (l : Launch) (D : va_G) (cI cJ cZ cB : ClassId) (a_o : Nat) (a_o_kept : Nat) (a_o_filled : Nat) (d_o_filled : (Nat → Int32)) (x1 : Int32) (res : Int32) (hf : fX6_isFilled d_o_filled x1 = some res) : Ro l yX6_isFilled wsX6_isFilled ({ frames := 1, cells := 0, slots := 0, locals := 21 } : Room) D (tyL cI cJ cZ cB) [.ref a_o, .int x1] (WX6_isFilled cI cJ cZ cB a_o a_o_kept a_o_filled d_o_filled) (some (.int res)) := by
  refine Ro.of (cc := cX6_isFilled) (maxL := 2) (ret := (some .boolean)) (own := RX6) (by decide) rfl rfl (Nat.le_of_ble_eq_true rfl) ?_
  intro p e s m below meth c ls C hK hP hl
  obtain ⟨hx, hb, hr, hml, hts, hown, hlk⟩ := id C
  have hl : lv_has ls 2 [(0, .ref a_o), (1, .int x1)] := hl
  unfold fX6_isFilled at hf
  refine lv_aload_n hx hb dX6_isFilled_0 rfl (lv_at hl 0 rfl) ?_
  refine lv_iload_n hx hb dX6_isFilled_1 rfl (lv_at hl 1 rfl) ?_
  obtain ⟨q1, hq2, hf⟩ := pf_b hf
  have hPc := hP.sub (ws' := (WX6_has cI cJ cZ cB a_o a_o_kept a_o_filled)) [0] rfl
  refine cl_roi (va_runV (As := [.int x1]) (rest := []) ⟨hx, hb, hml, hown, hts⟩ (kX6_has l D cI cJ cZ cB a_o a_o_kept a_o_filled x1 q1 hq2) (cwV 1 hts gX6_isFilled_X6_has rfl rfl rfl (by decide +kernel) ⟨Nat.le_of_ble_eq_true rfl, Nat.le_of_ble_eq_true rfl⟩) ⟨PRo.blind, va_recv hK.1 hPc (ci := 6) (q0 := 0) rfl rfl, PRo.at hK hPc⟩ rfl rfl hl.1 rfl (lv_room (Nat.le_of_ble_eq_true rfl)) dX6_isFilled_2 ⟨Nat.zero_le _, Nat.zero_le _⟩) ?_
  refine lv_if_eq (tgt := 21) hx hb dX6_isFilled_5 (by decide) (fun hc => ?_) (fun hc => ?_)
  · have hf := pf_t hc hf
    refine lv_iconst (v := (0 : Int32)) hx hb dX6_isFilled_21 (by decide) ?_
    cases hf
    exact W.zret (v := (0 : Int32)) hx hb hr (nar_b (by decide)) (fun t ht hW => ⟨rfl, ht⟩) (fun _ h => absurd h List.not_mem_nil) dX6_isFilled_22
  · have hf := pf_f hc hf
    refine lv_aload_n hx hb dX6_isFilled_8 rfl (lv_at hl 0 rfl) ?_
    refine va_get (D := D) (ci := 6) (v := .ref a_o_filled) (C := RX6) (T := TX6) (N := 2) hx hb hts iX6_isFilled_X6 hown hK.1 hP 0 rfl rfl 1 (by decide) (hts (.fieldLink RX6 17 "LoneSeats$Slots" "filled" "[Z") (by decide +kernel)) (fun _ h9 => h9) rfl dX6_isFilled_9 ?_
    refine lv_iload_n hx hb dX6_isFilled_12 rfl (lv_at hl 1 rfl) ?_
    obtain ⟨hg3, hf⟩ := pf_x hf
    refine va_zald hx hb hK.1 hP 1 2 rfl rfl hg3 dX6_isFilled_13 ?_
    refine lv_if_eq (tgt := 21) hx hb dX6_isFilled_14 (by decide) (fun hc => ?_) (fun hc => ?_)
    · have hf := pf_t hc hf
      refine lv_iconst (v := (0 : Int32)) hx hb dX6_isFilled_21 (by decide) ?_
      cases hf
      exact W.zret (v := (0 : Int32)) hx hb hr (nar_b (by decide)) (fun t ht hW => ⟨rfl, ht⟩) (fun _ h => absurd h List.not_mem_nil) dX6_isFilled_22
    · have hf := pf_f hc hf
      refine lv_iconst (v := (1 : Int32)) hx hb dX6_isFilled_17 (by decide) ?_
      refine lv_goto (tgt := 22) hx hb dX6_isFilled_18 (by decide) ?_
      cases hf
      exact W.zret (v := (1 : Int32)) hx hb hr (nar_b (by decide)) (fun t ht hW => ⟨rfl, ht⟩) (fun _ h => absurd h List.not_mem_nil) dX6_isFilled_22
abbrev WX6_clear (cI cJ cZ cB : ClassId) (a_o : Nat) (a_o_kept : Nat) (a_o_filled : Nat) (d_o_filled : (Nat → Int32)) : va_W := [(a_o, .inr (6, [.ref a_o_kept, .ref a_o_filled])), (a_o_filled, .inl (cZ, (2, .inl d_o_filled)))]
set_option maxRecDepth 20000 in
theorem iX6_clear_X6 : ∀ w ∈ wsX60, w ∈ wsX6_clear := by decide +kernel
def fX6_clear_2 : Nat → (Nat → Int32) → Int32 → Option ((Nat → Int32))
  | 0, _, _ => none
  | n + 1, d_o_filled, x1 => (if (2 : Int32) ≤ x1 then some d_o_filled else (if x1 < 0 ∨ 2 ≤ (x1).toNatClampNeg then none else fX6_clear_2 n (upd d_o_filled ((x1).toNatClampNeg) (vp_nar .boolean (0 : Int32))) (x1 + (1 : Int32))))
set_option maxRecDepth 100000 in
set_option maxHeartbeats 4000000 in
theorem tX6_clear_2 {p : Program} {l : Launch} {e : Env} {s : State} {m : MethodId} {args : Array Value} {below : List Frame} {meth : Method} {c : Code} {D : va_G} {cI cJ cZ cB : ClassId} {a_o : Nat} {a_o_kept : Nat} {a_o_filled : Nat} {A : Nat → Prop} (C : Cx p s m args meth c cX6_clear 2 none wsX6_clear RX6) (hK : Kw D (tyL cI cJ cZ cB) s) (hA : ∀ q : Nat, s.heap.size ≤ q → A q) : ∀ (n : Nat), ∀ (d_o_filled : (Nat → Int32)) (x1 : Int32) (H : Heap) (locs : List Loc) (ls : Array Slot) (res : (Nat → Int32)), va_P D vwCl (WX6_clear cI cJ cZ cB a_o a_o_kept a_o_filled d_o_filled) H → va_D A (WX6_clear cI cJ cZ cB a_o a_o_kept a_o_filled d_o_filled) → va_S A s.heap H locs → lv_has ls 2 [(0, .ref a_o), (1, .int x1)] → fX6_clear_2 n d_o_filled x1 = some res → W p l e ({ frames := 0, cells := 0, slots := 0, locals := 0 } : Room) s m args below meth c H locs 0 0 (MQ below (QRw D A (WX6_clear cI cJ cZ cB a_o a_o_kept a_o_filled res) none) args s 0 0 A) (F0 m 2 ls []) := by
  obtain ⟨hx, hb, hr, hml, hts, hown, hlk⟩ := id C
  intro n
  induction n with
  | zero =>
    intro d_o_filled x1 H locs ls res hP hD hS hl hf
    rw [fX6_clear_2] at hf
    cases hf
  | succ n ih =>
    intro d_o_filled x1 H locs ls res hP hD hS hl hf
    rw [fX6_clear_2] at hf
    refine lv_iload_n hx hb dX6_clear_2 rfl (lv_at hl 1 rfl) ?_
    refine lv_iconst (v := (2 : Int32)) hx hb dX6_clear_3 (by decide) ?_
    refine lv_icmp_ge (tgt := 20) hx hb dX6_clear_4 (by decide) (fun hc => ?_) (fun hc => ?_)
    · have hf := pf_t hc hf
      cases hf
      exact W.vret hx hb hr (fun t ht hW => ⟨⟨rfl, by rw [ht]; exact hP, hD⟩, hS.F ht⟩) hS.2.2 dX6_clear_20
    · have hf := pf_f hc hf
      refine lv_aload_n hx hb dX6_clear_7 rfl (lv_at hl 0 rfl) ?_
      refine va_get (D := D) (ci := 6) (v := .ref a_o_filled) (C := RX6) (T := TX6) (N := 2) hx hb hts iX6_clear_X6 hown hK.1 hP 0 rfl rfl 1 (by decide) (hts (.fieldLink RX6 17 "LoneSeats$Slots" "filled" "[Z") (by decide +kernel)) (fun _ h9 => h9) rfl dX6_clear_8 ?_
      refine lv_iload_n hx hb dX6_clear_11 rfl (lv_at hl 1 rfl) ?_
      refine lv_iconst (v := (0 : Int32)) hx hb dX6_clear_12 (by decide) ?_
      obtain ⟨hg1, hf⟩ := pf_x hf
      refine va_zast hx hb hK.1 hP hD hS 1 2 rfl rfl hg1 dX6_clear_13 (fun H locs hP hD hS => ?_)
      have hP : va_P D vwCl (WX6_clear cI cJ cZ cB a_o a_o_kept a_o_filled (upd d_o_filled ((x1).toNatClampNeg) (vp_nar .boolean (0 : Int32)))) H := hP
      have hD : va_D A (WX6_clear cI cJ cZ cB a_o a_o_kept a_o_filled (upd d_o_filled ((x1).toNatClampNeg) (vp_nar .boolean (0 : Int32)))) := hD
      refine lv_iinc (v := (x1 + (1 : Int32))) (lv' := [(1, .int (x1 + (1 : Int32))), (0, .ref a_o)]) hx hb dX6_clear_14 hl (k := 1) rfl rfl (by decide) rfl (fun ls hl => ?_)
      refine lv_goto (tgt := 2) hx hb dX6_clear_17 (by decide) ?_
      exact ih (upd d_o_filled ((x1).toNatClampNeg) (vp_nar .boolean (0 : Int32))) (x1 + (1 : Int32)) _ _ ls _ hP hD hS (lv_sub hl [1, 0] rfl) hf
def fX6_clear (d_o_filled : (Nat → Int32)) : Option ((Nat → Int32)) := fX6_clear_2 FU d_o_filled (0 : Int32)
set_option maxRecDepth 100000 in
set_option maxHeartbeats 4000000 in
theorem kX6_clear (l : Launch) (D : va_G) (cI cJ cZ cB : ClassId) (a_o : Nat) (a_o_kept : Nat) (a_o_filled : Nat) (d_o_filled : (Nat → Int32)) (res : (Nat → Int32)) (hf : fX6_clear d_o_filled = some res) : Rw l yX6_clear wsX6_clear ({ frames := 0, cells := 0, slots := 0, locals := 0 } : Room) D (tyL cI cJ cZ cB) [.ref a_o] (WX6_clear cI cJ cZ cB a_o a_o_kept a_o_filled d_o_filled) none (WX6_clear cI cJ cZ cB a_o a_o_kept a_o_filled res) := by
  refine Rw.of (cc := cX6_clear) (maxL := 2) (ret := none) (own := RX6) (by decide) rfl rfl (Nat.le_of_ble_eq_true rfl) ?_
  intro p e s m below meth c A ls C hK hA hP hD hS hl
  obtain ⟨hx, hb, hr, hml, hts, hown, hlk⟩ := id C
  have hl : lv_has ls 2 [(0, .ref a_o)] := hl
  unfold fX6_clear at hf
  refine lv_iconst (v := (0 : Int32)) hx hb dX6_clear_0 (by decide) ?_
  refine lv_istore_n (lv' := [(1, .int (0 : Int32)), (0, .ref a_o)]) hx hb dX6_clear_1 rfl hl (by decide) rfl (fun ls hl => ?_)
  exact tX6_clear_2 C hK hA  FU d_o_filled (0 : Int32) _ _ ls _ hP hD hS (lv_sub hl [1, 0] rfl) hf
abbrev WX7_append (cI cJ cZ cB : ClassId) (a_o : Nat) (a_o_letters : Nat) (v_o_length : Int32) (d_o_letters : (Nat → Int32)) : va_W := [(a_o, .inr (7, [.ref a_o_letters, .int v_o_length])), (a_o_letters, .inl (cI, (80, .inl d_o_letters)))]
set_option maxRecDepth 20000 in
theorem iX7_append_X7 : ∀ w ∈ wsX70, w ∈ wsX7_append := by decide +kernel
def fX7_append (v_o_length : Int32) (d_o_letters : (Nat → Int32)) (x1 : Int32) : Option (Int32 × Int32 × (Nat → Int32)) := (if v_o_length < 0 then some ((0 : Int32), v_o_length, d_o_letters) else (if v_o_length < (80 : Int32) then (if v_o_length < 0 ∨ 80 ≤ (v_o_length).toNatClampNeg then none else some ((1 : Int32), (v_o_length + (1 : Int32)), (upd d_o_letters ((v_o_length).toNatClampNeg) x1))) else some ((0 : Int32), v_o_length, d_o_letters)))
set_option maxRecDepth 100000 in
set_option maxHeartbeats 4000000 in
theorem kX7_append (l : Launch) (D : va_G) (cI cJ cZ cB : ClassId) (a_o : Nat) (a_o_letters : Nat) (v_o_length : Int32) (d_o_letters : (Nat → Int32)) (x1 : Int32) (res : Int32 × Int32 × (Nat → Int32)) (hf : fX7_append v_o_length d_o_letters x1 = some res) : Rw l yX7_append wsX7_append ({ frames := 0, cells := 0, slots := 0, locals := 0 } : Room) D (tyL cI cJ cZ cB) [.ref a_o, .int x1] (WX7_append cI cJ cZ cB a_o a_o_letters v_o_length d_o_letters) (some (.int res.1)) (WX7_append cI cJ cZ cB a_o a_o_letters res.2.1 res.2.2) := by
  refine Rw.of (cc := cX7_append) (maxL := 2) (ret := (some .boolean)) (own := RX7) (by decide) rfl rfl (Nat.le_of_ble_eq_true rfl) ?_
  intro p e s m below meth c A ls C hK hA hP hD hS hl
  obtain ⟨hx, hb, hr, hml, hts, hown, hlk⟩ := id C
  have hl : lv_has ls 2 [(0, .ref a_o), (1, .int x1)] := hl
  unfold fX7_append at hf
  refine lv_aload_n hx hb dX7_append_0 rfl (lv_at hl 0 rfl) ?_
  refine va_get (D := D) (ci := 7) (v := .int v_o_length) (C := RX7) (T := TX7) (N := 2) hx hb hts iX7_append_X7 hown hK.1 hP 0 rfl rfl 1 (by decide) (hts (.fieldLink RX7 15 "LoneSeats$Text" "length" "I") (by decide +kernel)) (fun _ h9 => h9) rfl dX7_append_1 ?_
  refine lv_if_lt (tgt := 16) hx hb dX7_append_4 (by decide) (fun hc => ?_) (fun hc => ?_)
  · have hf := pf_t hc hf
    refine lv_iconst (v := (0 : Int32)) hx hb dX7_append_16 (by decide) ?_
    cases hf
    exact W.zret (v := (0 : Int32)) hx hb hr (nar_b (by decide)) (fun t ht hW => ⟨⟨rfl, by rw [ht]; exact hP, hD⟩, hS.F ht⟩) hS.2.2 dX7_append_17
  · have hf := pf_f hc hf
    refine lv_aload_n hx hb dX7_append_7 rfl (lv_at hl 0 rfl) ?_
    refine va_get (D := D) (ci := 7) (v := .int v_o_length) (C := RX7) (T := TX7) (N := 2) hx hb hts iX7_append_X7 hown hK.1 hP 0 rfl rfl 1 (by decide) (hts (.fieldLink RX7 15 "LoneSeats$Text" "length" "I") (by decide +kernel)) (fun _ h9 => h9) rfl dX7_append_8 ?_
    refine lv_bipush (v := (80 : Int32)) hx hb dX7_append_11 (by decide) ?_
    refine lv_icmp_lt (tgt := 18) hx hb dX7_append_13 (by decide) (fun hc => ?_) (fun hc => ?_)
    · have hf := pf_t hc hf
      refine lv_aload_n hx hb dX7_append_18 rfl (lv_at hl 0 rfl) ?_
      refine va_get (D := D) (ci := 7) (v := .ref a_o_letters) (C := RX7) (T := TX7) (N := 2) hx hb hts iX7_append_X7 hown hK.1 hP 0 rfl rfl 0 (by decide) (hts (.fieldLink RX7 9 "LoneSeats$Text" "letters" "[I") (by decide +kernel)) (fun _ h9 => h9) rfl dX7_append_19 ?_
      refine lv_aload_n hx hb dX7_append_22 rfl (lv_at hl 0 rfl) ?_
      refine va_get (D := D) (ci := 7) (v := .int v_o_length) (C := RX7) (T := TX7) (N := 2) hx hb hts iX7_append_X7 hown hK.1 hP 0 rfl rfl 1 (by decide) (hts (.fieldLink RX7 15 "LoneSeats$Text" "length" "I") (by decide +kernel)) (fun _ h9 => h9) rfl dX7_append_23 ?_
      refine lv_iload_n hx hb dX7_append_26 rfl (lv_at hl 1 rfl) ?_
      obtain ⟨hg1, hf⟩ := pf_x hf
      refine va_iast hx hb hK.1 hP hD hS 1 0 rfl rfl hg1 dX7_append_27 (fun H locs hP hD hS => ?_)
      have hP : va_P D vwCl (WX7_append cI cJ cZ cB a_o a_o_letters v_o_length (upd d_o_letters ((v_o_length).toNatClampNeg) x1)) H := hP
      have hD : va_D A (WX7_append cI cJ cZ cB a_o a_o_letters v_o_length (upd d_o_letters ((v_o_length).toNatClampNeg) x1)) := hD
      refine lv_aload_n hx hb dX7_append_28 rfl (lv_at hl 0 rfl) ?_
      refine lv_dup hx hb dX7_append_29 rfl ?_
      refine va_get (D := D) (ci := 7) (v := .int v_o_length) (C := RX7) (T := TX7) (N := 2) hx hb hts iX7_append_X7 hown hK.1 hP 0 rfl rfl 1 (by decide) (hts (.fieldLink RX7 15 "LoneSeats$Text" "length" "I") (by decide +kernel)) (fun _ h9 => h9) rfl dX7_append_30 ?_
      refine lv_iconst (v := (1 : Int32)) hx hb dX7_append_33 (by decide) ?_
      refine lv_iadd hx hb dX7_append_34 ?_
      refine va_put (D := D) (ci := 7) (v := .int (v_o_length + (1 : Int32))) (ty := .int) (C := RX7) (T := TX7) (N := 2) hx hb hts iX7_append_X7 tyX7 tyX7_ok nmX7 hown hK.1 hP hD hS 0 rfl rfl 1 (by decide) (hts (.fieldLink RX7 15 "LoneSeats$Text" "length" "I") (by decide +kernel)) (fun _ h9 => h9) rfl (by decide +kernel) rfl rfl (Nat.le_of_ble_eq_true rfl) dX7_append_35 (fun H locs hP hD hS => ?_)
      have hP : va_P D vwCl (WX7_append cI cJ cZ cB a_o a_o_letters (v_o_length + (1 : Int32)) (upd d_o_letters ((v_o_length).toNatClampNeg) x1)) H := hP
      have hD : va_D A (WX7_append cI cJ cZ cB a_o a_o_letters (v_o_length + (1 : Int32)) (upd d_o_letters ((v_o_length).toNatClampNeg) x1)) := hD
      refine lv_iconst (v := (1 : Int32)) hx hb dX7_append_38 (by decide) ?_
      cases hf
      exact W.zret (v := (1 : Int32)) hx hb hr (nar_b (by decide)) (fun t ht hW => ⟨⟨rfl, by rw [ht]; exact hP, hD⟩, hS.F ht⟩) hS.2.2 dX7_append_39
    · have hf := pf_f hc hf
      refine lv_iconst (v := (0 : Int32)) hx hb dX7_append_16 (by decide) ?_
      cases hf
      exact W.zret (v := (0 : Int32)) hx hb hr (nar_b (by decide)) (fun t ht hW => ⟨⟨rfl, by rw [ht]; exact hP, hD⟩, hS.F ht⟩) hS.2.2 dX7_append_17
abbrev WX7_clear (cI cJ cZ cB : ClassId) (a_o : Nat) (a_o_letters : Nat) (v_o_length : Int32) : va_W := [(a_o, .inr (7, [.ref a_o_letters, .int v_o_length]))]
set_option maxRecDepth 20000 in
theorem iX7_clear_X7 : ∀ w ∈ wsX70, w ∈ wsX7_clear := by decide +kernel
def fX7_clear (v_o_length : Int32) : Option (Int32) := some (0 : Int32)
set_option maxRecDepth 100000 in
set_option maxHeartbeats 4000000 in
theorem kX7_clear (l : Launch) (D : va_G) (cI cJ cZ cB : ClassId) (a_o : Nat) (a_o_letters : Nat) (v_o_length : Int32) (res : Int32) (hf : fX7_clear v_o_length = some res) : Rw l yX7_clear wsX7_clear ({ frames := 0, cells := 0, slots := 0, locals := 0 } : Room) D (tyL cI cJ cZ cB) [.ref a_o] (WX7_clear cI cJ cZ cB a_o a_o_letters v_o_length) none (WX7_clear cI cJ cZ cB a_o a_o_letters res) := by
  refine Rw.of (cc := cX7_clear) (maxL := 1) (ret := none) (own := RX7) (by decide) rfl rfl (Nat.le_of_ble_eq_true rfl) ?_
  intro p e s m below meth c A ls C hK hA hP hD hS hl
  obtain ⟨hx, hb, hr, hml, hts, hown, hlk⟩ := id C
  have hl : lv_has ls 1 [(0, .ref a_o)] := hl
  unfold fX7_clear at hf
  refine lv_aload_n hx hb dX7_clear_0 rfl (lv_at hl 0 rfl) ?_
  refine lv_iconst (v := (0 : Int32)) hx hb dX7_clear_1 (by decide) ?_
  refine va_put (D := D) (ci := 7) (v := .int (0 : Int32)) (ty := .int) (C := RX7) (T := TX7) (N := 2) hx hb hts iX7_clear_X7 tyX7 tyX7_ok nmX7 hown hK.1 hP hD hS 0 rfl rfl 1 (by decide) (hts (.fieldLink RX7 15 "LoneSeats$Text" "length" "I") (by decide +kernel)) (fun _ h9 => h9) rfl (by decide +kernel) rfl rfl (Nat.le_of_ble_eq_true rfl) dX7_clear_2 (fun H locs hP hD hS => ?_)
  have hP : va_P D vwCl (WX7_clear cI cJ cZ cB a_o a_o_letters (0 : Int32)) H := hP
  have hD : va_D A (WX7_clear cI cJ cZ cB a_o a_o_letters (0 : Int32)) := hD
  cases hf
  exact W.vret hx hb hr (fun t ht hW => ⟨⟨rfl, by rw [ht]; exact hP, hD⟩, hS.F ht⟩) hS.2.2 dX7_clear_5
abbrev WX8_write (cI cJ cZ cB : ClassId) (a_o : Nat) (a_o_text : Nat) (a_o_sketch : Nat) (a_o_plan : Nat) (a_o_now : Nat) (a_o_copy : Nat) (a_o_past : Nat) (a_o_slots : Nat) (a_o_sights : Nat) (a_o_finder : Nat) (a_o_odds : Nat) (a_o_text_letters : Nat) (v_o_seed : Int64) (v_o_text_length : Int32) (d_o_text_letters : (Nat → Int32)) : va_W := [(a_o, .inr (8, [.ref a_o_text, .ref a_o_sketch, .ref a_o_plan, .ref a_o_now, .ref a_o_copy, .ref a_o_past, .ref a_o_slots, .ref a_o_sights, .ref a_o_finder, .ref a_o_odds, .long v_o_seed])), (a_o_text, .inr (7, [.ref a_o_text_letters, .int v_o_text_length])), (a_o_text_letters, .inl (cI, (80, .inl d_o_text_letters)))]
set_option maxRecDepth 20000 in
theorem iX8_write_X8 : ∀ w ∈ wsX80, w ∈ wsX8_write := by decide +kernel
def fX8_write (v_o_text_length : Int32) (d_o_text_letters : (Nat → Int32)) (x1 : Int32) : Option (Int32 × Int32 × (Nat → Int32)) := (if x1 < 0 then some ((-2 : Int32), v_o_text_length, d_o_text_letters) else (if x1 ≤ (255 : Int32) then ((fX7_append v_o_text_length d_o_text_letters x1).bind fun q1 => (if q1.1 = 0 then some ((-4 : Int32), q1.2.1, q1.2.2) else ((fX7_length q1.2.1).bind fun q3 => some (q3, q1.2.1, q1.2.2)))) else some ((-2 : Int32), v_o_text_length, d_o_text_letters)))
set_option maxRecDepth 100000 in
set_option maxHeartbeats 4000000 in
theorem kX8_write (l : Launch) (D : va_G) (cI cJ cZ cB : ClassId) (a_o : Nat) (a_o_text : Nat) (a_o_sketch : Nat) (a_o_plan : Nat) (a_o_now : Nat) (a_o_copy : Nat) (a_o_past : Nat) (a_o_slots : Nat) (a_o_sights : Nat) (a_o_finder : Nat) (a_o_odds : Nat) (a_o_text_letters : Nat) (v_o_seed : Int64) (v_o_text_length : Int32) (d_o_text_letters : (Nat → Int32)) (x1 : Int32) (res : Int32 × Int32 × (Nat → Int32)) (hf : fX8_write v_o_text_length d_o_text_letters x1 = some res) : Rw l yX8_write wsX8_write ({ frames := 1, cells := 0, slots := 0, locals := 21 } : Room) D (tyL cI cJ cZ cB) [.ref a_o, .int x1] (WX8_write cI cJ cZ cB a_o a_o_text a_o_sketch a_o_plan a_o_now a_o_copy a_o_past a_o_slots a_o_sights a_o_finder a_o_odds a_o_text_letters v_o_seed v_o_text_length d_o_text_letters) (some (.int res.1)) (WX8_write cI cJ cZ cB a_o a_o_text a_o_sketch a_o_plan a_o_now a_o_copy a_o_past a_o_slots a_o_sights a_o_finder a_o_odds a_o_text_letters v_o_seed res.2.1 res.2.2) := by
  refine Rw.of (cc := cX8_write) (maxL := 2) (ret := (some .int)) (own := RX8) (by decide) rfl rfl (Nat.le_of_ble_eq_true rfl) ?_
  intro p e s m below meth c A ls C hK hA hP hD hS hl
  obtain ⟨hx, hb, hr, hml, hts, hown, hlk⟩ := id C
  have hl : lv_has ls 2 [(0, .ref a_o), (1, .int x1)] := hl
  unfold fX8_write at hf
  refine lv_iload_n hx hb dX8_write_0 rfl (lv_at hl 1 rfl) ?_
  refine lv_if_lt (tgt := 11) hx hb dX8_write_1 (by decide) (fun hc => ?_) (fun hc => ?_)
  · have hf := pf_t hc hf
    refine lv_bipush (v := (-2 : Int32)) hx hb dX8_write_11 (by decide) ?_
    cases hf
    exact W.iret (v := (-2 : Int32)) hx hb hr (fun t ht hW => ⟨⟨rfl, by rw [ht]; exact hP, hD⟩, hS.F ht⟩) hS.2.2 dX8_write_13
  · have hf := pf_f hc hf
    refine lv_iload_n hx hb dX8_write_4 rfl (lv_at hl 1 rfl) ?_
    refine lv_sipush (v := (255 : Int32)) hx hb dX8_write_5 (by decide) ?_
    refine lv_icmp_le (tgt := 14) hx hb dX8_write_8 (by decide) (fun hc => ?_) (fun hc => ?_)
    · have hf := pf_t hc hf
      refine lv_aload_n hx hb dX8_write_14 rfl (lv_at hl 0 rfl) ?_
      refine va_get (D := D) (ci := 8) (v := .ref a_o_text) (C := RX8) (T := TX8) (N := 11) hx hb hts iX8_write_X8 hown hK.1 hP 0 rfl rfl 0 (by decide) (hts (.fieldLink RX8 12 "LoneSeats" "text" "LLoneSeats$Text;") (by decide +kernel)) (fun _ h9 => h9) rfl dX8_write_15 ?_
      refine lv_iload_n hx hb dX8_write_18 rfl (lv_at hl 1 rfl) ?_
      obtain ⟨q1, hq2, hf⟩ := pf_b hf
      have hPc := hP.sub (ws' := (WX7_append cI cJ cZ cB a_o_text a_o_text_letters v_o_text_length d_o_text_letters)) [1, 2] rfl
      have hDc := hD.sub (ws' := (WX7_append cI cJ cZ cB a_o_text a_o_text_letters v_o_text_length d_o_text_letters)) [1, 2] (by decide) rfl
      refine cl_rwi (wr := [(a_o, .inr (8, [.ref a_o_text, .ref a_o_sketch, .ref a_o_plan, .ref a_o_now, .ref a_o_copy, .ref a_o_past, .ref a_o_slots, .ref a_o_sights, .ref a_o_finder, .ref a_o_odds, .long v_o_seed]))]) (wsN := (WX8_write cI cJ cZ cB a_o a_o_text a_o_sketch a_o_plan a_o_now a_o_copy a_o_past a_o_slots a_o_sights a_o_finder a_o_odds a_o_text_letters v_o_seed q1.2.1 q1.2.2)) (va_runV (As := [.int x1]) (rest := []) ⟨hx, hb, hml, hown, hts⟩ ((kX7_append l D cI cJ cZ cB a_o_text a_o_text_letters v_o_text_length d_o_text_letters x1 q1 hq2) _) (cwV 1 hts gX8_write_X7_append rfl rfl rfl (by decide +kernel) ⟨Nat.le_of_ble_eq_true rfl, Nat.le_of_ble_eq_true rfl⟩) ⟨PRw.blind, va_recv hK.1 hPc (ci := 7) (q0 := 0) rfl rfl, PRw.at hK hPc hDc⟩ rfl rfl hl.1 rfl (lv_room (Nat.le_of_ble_eq_true rfl)) dX8_write_19 ⟨Nat.zero_le _, Nat.zero_le _⟩) hP hD hS hA [1, 2] [0] [0, 1, 2] rfl rfl (by decide) (by decide) rfl (by decide) (fun H locs hP hD hS => ?_)
      refine lv_if_eq (tgt := 35) hx hb dX8_write_22 (by decide) (fun hc => ?_) (fun hc => ?_)
      · have hf := pf_t hc hf
        refine lv_bipush (v := (-4 : Int32)) hx hb dX8_write_35 (by decide) ?_
        cases hf
        exact W.iret (v := (-4 : Int32)) hx hb hr (fun t ht hW => ⟨⟨rfl, by rw [ht]; exact hP, hD⟩, hS.F ht⟩) hS.2.2 dX8_write_37
      · have hf := pf_f hc hf
        refine lv_aload_n hx hb dX8_write_25 rfl (lv_at hl 0 rfl) ?_
        refine va_get (D := D) (ci := 8) (v := .ref a_o_text) (C := RX8) (T := TX8) (N := 11) hx hb hts iX8_write_X8 hown hK.1 hP 0 rfl rfl 0 (by decide) (hts (.fieldLink RX8 12 "LoneSeats" "text" "LLoneSeats$Text;") (by decide +kernel)) (fun _ h9 => h9) rfl dX8_write_26 ?_
        obtain ⟨q3, hq4, hf⟩ := pf_b hf
        have hPc := hP.sub (ws' := (WX7_length cI cJ cZ cB a_o_text a_o_text_letters q1.2.1)) [1] rfl
        refine cl_roi (va_runV (As := []) (rest := []) ⟨hx, hb, hml, hown, hts⟩ (kX7_length l D cI cJ cZ cB a_o_text a_o_text_letters q1.2.1 q3 hq4) (cwV 0 hts gX8_write_X7_length rfl rfl rfl (by decide +kernel) ⟨Nat.le_of_ble_eq_true rfl, Nat.le_of_ble_eq_true rfl⟩) ⟨PRo.blind, va_recv hK.1 hPc (ci := 7) (q0 := 0) rfl rfl, PRo.at hK hPc⟩ rfl rfl hl.1 rfl (lv_room (Nat.le_of_ble_eq_true rfl)) dX8_write_29 ⟨Nat.zero_le _, Nat.zero_le _⟩) ?_
        refine lv_goto (tgt := 37) hx hb dX8_write_32 (by decide) ?_
        cases hf
        exact W.iret (v := q3) hx hb hr (fun t ht hW => ⟨⟨rfl, by rw [ht]; exact hP, hD⟩, hS.F ht⟩) hS.2.2 dX8_write_37
    · have hf := pf_f hc hf
      refine lv_bipush (v := (-2 : Int32)) hx hb dX8_write_11 (by decide) ?_
      cases hf
      exact W.iret (v := (-2 : Int32)) hx hb hr (fun t ht hW => ⟨⟨rfl, by rw [ht]; exact hP, hD⟩, hS.F ht⟩) hS.2.2 dX8_write_13
abbrev WX8_wipe (cI cJ cZ cB : ClassId) (a_o : Nat) (a_o_text : Nat) (a_o_sketch : Nat) (a_o_plan : Nat) (a_o_now : Nat) (a_o_copy : Nat) (a_o_past : Nat) (a_o_slots : Nat) (a_o_sights : Nat) (a_o_finder : Nat) (a_o_odds : Nat) (a_o_text_letters : Nat) (v_o_seed : Int64) (v_o_text_length : Int32) : va_W := [(a_o, .inr (8, [.ref a_o_text, .ref a_o_sketch, .ref a_o_plan, .ref a_o_now, .ref a_o_copy, .ref a_o_past, .ref a_o_slots, .ref a_o_sights, .ref a_o_finder, .ref a_o_odds, .long v_o_seed])), (a_o_text, .inr (7, [.ref a_o_text_letters, .int v_o_text_length]))]
set_option maxRecDepth 20000 in
theorem iX8_wipe_X8 : ∀ w ∈ wsX80, w ∈ wsX8_wipe := by decide +kernel
def fX8_wipe (v_o_text_length : Int32) : Option (Int32 × Int32) := ((fX7_length v_o_text_length).bind fun q1 => ((fX7_clear v_o_text_length).bind fun q3 => some (q1, q3)))
set_option maxRecDepth 100000 in
set_option maxHeartbeats 4000000 in
theorem kX8_wipe (l : Launch) (D : va_G) (cI cJ cZ cB : ClassId) (a_o : Nat) (a_o_text : Nat) (a_o_sketch : Nat) (a_o_plan : Nat) (a_o_now : Nat) (a_o_copy : Nat) (a_o_past : Nat) (a_o_slots : Nat) (a_o_sights : Nat) (a_o_finder : Nat) (a_o_odds : Nat) (a_o_text_letters : Nat) (v_o_seed : Int64) (v_o_text_length : Int32) (res : Int32 × Int32) (hf : fX8_wipe v_o_text_length = some res) : Rw l yX8_wipe wsX8_wipe ({ frames := 1, cells := 0, slots := 0, locals := 20 } : Room) D (tyL cI cJ cZ cB) [.ref a_o] (WX8_wipe cI cJ cZ cB a_o a_o_text a_o_sketch a_o_plan a_o_now a_o_copy a_o_past a_o_slots a_o_sights a_o_finder a_o_odds a_o_text_letters v_o_seed v_o_text_length) (some (.int res.1)) (WX8_wipe cI cJ cZ cB a_o a_o_text a_o_sketch a_o_plan a_o_now a_o_copy a_o_past a_o_slots a_o_sights a_o_finder a_o_odds a_o_text_letters v_o_seed res.2) := by
  refine Rw.of (cc := cX8_wipe) (maxL := 2) (ret := (some .int)) (own := RX8) (by decide) rfl rfl (Nat.le_of_ble_eq_true rfl) ?_
  intro p e s m below meth c A ls C hK hA hP hD hS hl
  obtain ⟨hx, hb, hr, hml, hts, hown, hlk⟩ := id C
  have hl : lv_has ls 2 [(0, .ref a_o)] := hl
  unfold fX8_wipe at hf
  refine lv_aload_n hx hb dX8_wipe_0 rfl (lv_at hl 0 rfl) ?_
  refine va_get (D := D) (ci := 8) (v := .ref a_o_text) (C := RX8) (T := TX8) (N := 11) hx hb hts iX8_wipe_X8 hown hK.1 hP 0 rfl rfl 0 (by decide) (hts (.fieldLink RX8 12 "LoneSeats" "text" "LLoneSeats$Text;") (by decide +kernel)) (fun _ h9 => h9) rfl dX8_wipe_1 ?_
  obtain ⟨q1, hq2, hf⟩ := pf_b hf
  have hPc := hP.sub (ws' := (WX7_length cI cJ cZ cB a_o_text a_o_text_letters v_o_text_length)) [1] rfl
  refine cl_roi (va_runV (As := []) (rest := []) ⟨hx, hb, hml, hown, hts⟩ (kX7_length l D cI cJ cZ cB a_o_text a_o_text_letters v_o_text_length q1 hq2) (cwV 0 hts gX8_wipe_X7_length rfl rfl rfl (by decide +kernel) ⟨Nat.le_of_ble_eq_true rfl, Nat.le_of_ble_eq_true rfl⟩) ⟨PRo.blind, va_recv hK.1 hPc (ci := 7) (q0 := 0) rfl rfl, PRo.at hK hPc⟩ rfl rfl hl.1 rfl (lv_room (Nat.le_of_ble_eq_true rfl)) dX8_wipe_4 ⟨Nat.zero_le _, Nat.zero_le _⟩) ?_
  refine lv_istore_n (lv' := [(1, .int q1), (0, .ref a_o)]) hx hb dX8_wipe_7 rfl hl (by decide) rfl (fun ls hl => ?_)
  refine lv_aload_n hx hb dX8_wipe_8 rfl (lv_at hl 1 rfl) ?_
  refine va_get (D := D) (ci := 8) (v := .ref a_o_text) (C := RX8) (T := TX8) (N := 11) hx hb hts iX8_wipe_X8 hown hK.1 hP 0 rfl rfl 0 (by decide) (hts (.fieldLink RX8 12 "LoneSeats" "text" "LLoneSeats$Text;") (by decide +kernel)) (fun _ h9 => h9) rfl dX8_wipe_9 ?_
  obtain ⟨q3, hq4, hf⟩ := pf_b hf
  have hPc := hP.sub (ws' := (WX7_clear cI cJ cZ cB a_o_text a_o_text_letters v_o_text_length)) [1] rfl
  have hDc := hD.sub (ws' := (WX7_clear cI cJ cZ cB a_o_text a_o_text_letters v_o_text_length)) [1] (by decide) rfl
  refine cl_rwv (wr := [(a_o, .inr (8, [.ref a_o_text, .ref a_o_sketch, .ref a_o_plan, .ref a_o_now, .ref a_o_copy, .ref a_o_past, .ref a_o_slots, .ref a_o_sights, .ref a_o_finder, .ref a_o_odds, .long v_o_seed]))]) (wsN := (WX8_wipe cI cJ cZ cB a_o a_o_text a_o_sketch a_o_plan a_o_now a_o_copy a_o_past a_o_slots a_o_sights a_o_finder a_o_odds a_o_text_letters v_o_seed q3)) (va_runV (As := []) (rest := []) ⟨hx, hb, hml, hown, hts⟩ ((kX7_clear l D cI cJ cZ cB a_o_text a_o_text_letters v_o_text_length q3 hq4) _) (cwV 0 hts gX8_wipe_X7_clear rfl rfl rfl (by decide +kernel) ⟨Nat.le_of_ble_eq_true rfl, Nat.le_of_ble_eq_true rfl⟩) ⟨PRw.blind, va_recv hK.1 hPc (ci := 7) (q0 := 0) rfl rfl, PRw.at hK hPc hDc⟩ rfl rfl hl.1 rfl (lv_room (Nat.le_of_ble_eq_true rfl)) dX8_wipe_12 ⟨Nat.zero_le _, Nat.zero_le _⟩) hP hD hS hA [1] [0] [0, 1] rfl rfl (by decide) (by decide) rfl (by decide) (fun H locs hP hD hS => ?_)
  refine lv_iload_n hx hb dX8_wipe_15 rfl (lv_at hl 0 rfl) ?_
  cases hf
  exact W.iret (v := q1) hx hb hr (fun t ht hW => ⟨⟨rfl, by rw [ht]; exact hP, hD⟩, hS.F ht⟩) hS.2.2 dX8_wipe_16
abbrev WX8_fault (cI cJ cZ cB : ClassId) (a_o : Nat) (a_o_text : Nat) (a_o_sketch : Nat) (a_o_plan : Nat) (a_o_now : Nat) (a_o_copy : Nat) (a_o_past : Nat) (a_o_slots : Nat) (a_o_sights : Nat) (a_o_finder : Nat) (a_o_odds : Nat) (a_o_text_letters : Nat) (a_o_sketch_prices : Nat) (a_o_sketch_seats : Nat) (a_o_sketch_joined : Nat) (a_o_sketch_views : Nat) (v_o_seed : Int64) (v_o_text_length : Int32) (d_o_text_letters : (Nat → Int32)) (v_o_sketch_rows : Int32) (v_o_sketch_awaited : Int32) (d_o_sketch_prices : (Nat → Int32)) (d_o_sketch_seats : (Nat → Int32)) (d_o_sketch_joined : (Nat → Int32)) (d_o_sketch_views : (Nat → Int32)) : va_W := [(a_o, .inr (8, [.ref a_o_text, .ref a_o_sketch, .ref a_o_plan, .ref a_o_now, .ref a_o_copy, .ref a_o_past, .ref a_o_slots, .ref a_o_sights, .ref a_o_finder, .ref a_o_odds, .long v_o_seed])), (a_o_text, .inr (7, [.ref a_o_text_letters, .int v_o_text_length])), (a_o_text_letters, .inl (cI, (80, .inl d_o_text_letters))), (a_o_sketch, .inr (4, [.ref a_o_sketch_prices, .ref a_o_sketch_seats, .ref a_o_sketch_joined, .ref a_o_sketch_views, .int v_o_sketch_rows, .int v_o_sketch_awaited])), (a_o_sketch_prices, .inl (cI, (4, .inl d_o_sketch_prices))), (a_o_sketch_seats, .inl (cI, (4, .inl d_o_sketch_seats))), (a_o_sketch_joined, .inl (cI, (4, .inl d_o_sketch_joined))), (a_o_sketch_views, .inl (cI, (36, .inl d_o_sketch_views)))]
set_option maxRecDepth 20000 in
theorem iX8_fault_X8 : ∀ w ∈ wsX80, w ∈ wsX8_fault := by decide +kernel
def fX8_fault (v_o_text_length : Int32) (d_o_text_letters : (Nat → Int32)) (v_o_sketch_rows : Int32) (v_o_sketch_awaited : Int32) (d_o_sketch_prices : (Nat → Int32)) (d_o_sketch_seats : (Nat → Int32)) (d_o_sketch_joined : (Nat → Int32)) (d_o_sketch_views : (Nat → Int32)) : Option (Int32 × Int32 × Int32 × (Nat → Int32) × (Nat → Int32) × (Nat → Int32) × (Nat → Int32)) := ((fX4_readFrom v_o_sketch_rows v_o_sketch_awaited d_o_sketch_prices d_o_sketch_seats d_o_sketch_joined d_o_sketch_views v_o_text_length d_o_text_letters).bind fun q1 => some (q1.1, q1.2.1, q1.2.2.1, q1.2.2.2.1, q1.2.2.2.2.1, q1.2.2.2.2.2.1, q1.2.2.2.2.2.2))
set_option maxRecDepth 100000 in
set_option maxHeartbeats 4000000 in
theorem kX8_fault (l : Launch) (D : va_G) (cI cJ cZ cB : ClassId) (a_o : Nat) (a_o_text : Nat) (a_o_sketch : Nat) (a_o_plan : Nat) (a_o_now : Nat) (a_o_copy : Nat) (a_o_past : Nat) (a_o_slots : Nat) (a_o_sights : Nat) (a_o_finder : Nat) (a_o_odds : Nat) (a_o_text_letters : Nat) (a_o_sketch_prices : Nat) (a_o_sketch_seats : Nat) (a_o_sketch_joined : Nat) (a_o_sketch_views : Nat) (v_o_seed : Int64) (v_o_text_length : Int32) (d_o_text_letters : (Nat → Int32)) (v_o_sketch_rows : Int32) (v_o_sketch_awaited : Int32) (d_o_sketch_prices : (Nat → Int32)) (d_o_sketch_seats : (Nat → Int32)) (d_o_sketch_joined : (Nat → Int32)) (d_o_sketch_views : (Nat → Int32)) (res : Int32 × Int32 × Int32 × (Nat → Int32) × (Nat → Int32) × (Nat → Int32) × (Nat → Int32)) (hf : fX8_fault v_o_text_length d_o_text_letters v_o_sketch_rows v_o_sketch_awaited d_o_sketch_prices d_o_sketch_seats d_o_sketch_joined d_o_sketch_views = some res) : Rw l yX8_fault wsX8_fault ({ frames := 5, cells := 0, slots := 0, locals := 105 } : Room) D (tyL cI cJ cZ cB) [.ref a_o] (WX8_fault cI cJ cZ cB a_o a_o_text a_o_sketch a_o_plan a_o_now a_o_copy a_o_past a_o_slots a_o_sights a_o_finder a_o_odds a_o_text_letters a_o_sketch_prices a_o_sketch_seats a_o_sketch_joined a_o_sketch_views v_o_seed v_o_text_length d_o_text_letters v_o_sketch_rows v_o_sketch_awaited d_o_sketch_prices d_o_sketch_seats d_o_sketch_joined d_o_sketch_views) (some (.int res.1)) (WX8_fault cI cJ cZ cB a_o a_o_text a_o_sketch a_o_plan a_o_now a_o_copy a_o_past a_o_slots a_o_sights a_o_finder a_o_odds a_o_text_letters a_o_sketch_prices a_o_sketch_seats a_o_sketch_joined a_o_sketch_views v_o_seed v_o_text_length d_o_text_letters res.2.1 res.2.2.1 res.2.2.2.1 res.2.2.2.2.1 res.2.2.2.2.2.1 res.2.2.2.2.2.2) := by
  refine Rw.of (cc := cX8_fault) (maxL := 1) (ret := (some .int)) (own := RX8) (by decide) rfl rfl (Nat.le_of_ble_eq_true rfl) ?_
  intro p e s m below meth c A ls C hK hA hP hD hS hl
  obtain ⟨hx, hb, hr, hml, hts, hown, hlk⟩ := id C
  have hl : lv_has ls 1 [(0, .ref a_o)] := hl
  unfold fX8_fault at hf
  refine lv_aload_n hx hb dX8_fault_0 rfl (lv_at hl 0 rfl) ?_
  refine va_get (D := D) (ci := 8) (v := .ref a_o_sketch) (C := RX8) (T := TX8) (N := 11) hx hb hts iX8_fault_X8 hown hK.1 hP 0 rfl rfl 1 (by decide) (hts (.fieldLink RX8 19 "LoneSeats" "sketch" "LLoneSeats$Plan;") (by decide +kernel)) (fun _ h9 => h9) rfl dX8_fault_1 ?_
  refine lv_aload_n hx hb dX8_fault_4 rfl (lv_at hl 0 rfl) ?_
  refine va_get (D := D) (ci := 8) (v := .ref a_o_text) (C := RX8) (T := TX8) (N := 11) hx hb hts iX8_fault_X8 hown hK.1 hP 0 rfl rfl 0 (by decide) (hts (.fieldLink RX8 12 "LoneSeats" "text" "LLoneSeats$Text;") (by decide +kernel)) (fun _ h9 => h9) rfl dX8_fault_5 ?_
  obtain ⟨q1, hq2, hf⟩ := pf_b hf
  have hPc := hP.sub (ws' := (WX4_readFrom cI cJ cZ cB a_o_sketch a_o_sketch_prices a_o_sketch_seats a_o_sketch_joined a_o_sketch_views a_o_text a_o_text_letters v_o_sketch_rows v_o_sketch_awaited d_o_sketch_prices d_o_sketch_seats d_o_sketch_joined d_o_sketch_views v_o_text_length d_o_text_letters)) [3, 4, 5, 6, 7, 1, 2] rfl
  have hDc := hD.sub (ws' := (WX4_readFrom cI cJ cZ cB a_o_sketch a_o_sketch_prices a_o_sketch_seats a_o_sketch_joined a_o_sketch_views a_o_text a_o_text_letters v_o_sketch_rows v_o_sketch_awaited d_o_sketch_prices d_o_sketch_seats d_o_sketch_joined d_o_sketch_views v_o_text_length d_o_text_letters)) [3, 4, 5, 6, 7, 1, 2] (by decide) rfl
  refine cl_rwi (wr := [(a_o, .inr (8, [.ref a_o_text, .ref a_o_sketch, .ref a_o_plan, .ref a_o_now, .ref a_o_copy, .ref a_o_past, .ref a_o_slots, .ref a_o_sights, .ref a_o_finder, .ref a_o_odds, .long v_o_seed]))]) (wsN := (WX8_fault cI cJ cZ cB a_o a_o_text a_o_sketch a_o_plan a_o_now a_o_copy a_o_past a_o_slots a_o_sights a_o_finder a_o_odds a_o_text_letters a_o_sketch_prices a_o_sketch_seats a_o_sketch_joined a_o_sketch_views v_o_seed v_o_text_length d_o_text_letters q1.2.1 q1.2.2.1 q1.2.2.2.1 q1.2.2.2.2.1 q1.2.2.2.2.2.1 q1.2.2.2.2.2.2)) (va_runV (As := [.ref a_o_text]) (rest := []) ⟨hx, hb, hml, hown, hts⟩ ((kX4_readFrom l D cI cJ cZ cB a_o_sketch a_o_sketch_prices a_o_sketch_seats a_o_sketch_joined a_o_sketch_views a_o_text a_o_text_letters v_o_sketch_rows v_o_sketch_awaited d_o_sketch_prices d_o_sketch_seats d_o_sketch_joined d_o_sketch_views v_o_text_length d_o_text_letters q1 hq2) _) (cwV 1 hts gX8_fault_X4_readFrom rfl rfl rfl (by decide +kernel) ⟨Nat.le_of_ble_eq_true rfl, Nat.le_of_ble_eq_true rfl⟩) ⟨PRw.blind, va_recv hK.1 hPc (ci := 4) (q0 := 0) rfl rfl, PRw.at hK hPc hDc⟩ rfl rfl hl.1 rfl (lv_room (Nat.le_of_ble_eq_true rfl)) dX8_fault_8 ⟨Nat.zero_le _, Nat.zero_le _⟩) hP hD hS hA [3, 4, 5, 6, 7, 1, 2] [0] [0, 6, 7, 1, 2, 3, 4, 5] rfl rfl (by decide) (by decide) rfl (by decide) (fun H locs hP hD hS => ?_)
  cases hf
  exact W.iret (v := q1.1) hx hb hr (fun t ht hW => ⟨⟨rfl, by rw [ht]; exact hP, hD⟩, hS.F ht⟩) hS.2.2 dX8_fault_11
abbrev WX8_hall (cI cJ cZ cB : ClassId) (a_o : Nat) (a_o_text : Nat) (a_o_sketch : Nat) (a_o_plan : Nat) (a_o_now : Nat) (a_o_copy : Nat) (a_o_past : Nat) (a_o_slots : Nat) (a_o_sights : Nat) (a_o_finder : Nat) (a_o_odds : Nat) (a_o_text_letters : Nat) (a_o_sketch_prices : Nat) (a_o_sketch_seats : Nat) (a_o_sketch_joined : Nat) (a_o_sketch_views : Nat) (a_o_plan_prices : Nat) (a_o_plan_seats : Nat) (a_o_plan_joined : Nat) (a_o_plan_views : Nat) (a_o_now_prices : Nat) (a_o_now_free : Nat) (a_o_now_sizes : Nat) (a_o_now_limits : Nat) (a_o_now_places : Nat) (a_o_now_paid : Nat) (a_o_now_queue : Nat) (a_o_past_ring : Nat) (a_o_slots_kept : Nat) (a_o_slots_filled : Nat) (v_o_seed : Int64) (v_o_text_length : Int32) (d_o_text_letters : (Nat → Int32)) (v_o_sketch_rows : Int32) (v_o_sketch_awaited : Int32) (d_o_sketch_prices : (Nat → Int32)) (d_o_sketch_seats : (Nat → Int32)) (d_o_sketch_joined : (Nat → Int32)) (d_o_sketch_views : (Nat → Int32)) (v_o_plan_rows : Int32) (v_o_plan_awaited : Int32) (d_o_plan_prices : (Nat → Int32)) (d_o_plan_seats : (Nat → Int32)) (d_o_plan_joined : (Nat → Int32)) (d_o_plan_views : (Nat → Int32)) (v_o_now_asked : Int32) (v_o_now_waiting : Int32) (v_o_now_fee : Int32) (v_o_now_takings : Int32) (d_o_now_prices : (Nat → Int32)) (d_o_now_free : (Nat → Int32)) (v_o_past_next : Int32) (v_o_past_acts : Int32) (d_o_slots_filled : (Nat → Int32)) : va_W := [(a_o, .inr (8, [.ref a_o_text, .ref a_o_sketch, .ref a_o_plan, .ref a_o_now, .ref a_o_copy, .ref a_o_past, .ref a_o_slots, .ref a_o_sights, .ref a_o_finder, .ref a_o_odds, .long v_o_seed])), (a_o_text, .inr (7, [.ref a_o_text_letters, .int v_o_text_length])), (a_o_text_letters, .inl (cI, (80, .inl d_o_text_letters))), (a_o_sketch, .inr (4, [.ref a_o_sketch_prices, .ref a_o_sketch_seats, .ref a_o_sketch_joined, .ref a_o_sketch_views, .int v_o_sketch_rows, .int v_o_sketch_awaited])), (a_o_sketch_prices, .inl (cI, (4, .inl d_o_sketch_prices))), (a_o_sketch_seats, .inl (cI, (4, .inl d_o_sketch_seats))), (a_o_sketch_joined, .inl (cI, (4, .inl d_o_sketch_joined))), (a_o_sketch_views, .inl (cI, (36, .inl d_o_sketch_views))), (a_o_plan, .inr (4, [.ref a_o_plan_prices, .ref a_o_plan_seats, .ref a_o_plan_joined, .ref a_o_plan_views, .int v_o_plan_rows, .int v_o_plan_awaited])), (a_o_plan_prices, .inl (cI, (4, .inl d_o_plan_prices))), (a_o_plan_seats, .inl (cI, (4, .inl d_o_plan_seats))), (a_o_plan_joined, .inl (cI, (4, .inl d_o_plan_joined))), (a_o_plan_views, .inl (cI, (36, .inl d_o_plan_views))), (a_o_now, .inr (0, [.ref a_o_now_prices, .ref a_o_now_free, .ref a_o_now_sizes, .ref a_o_now_limits, .ref a_o_now_places, .ref a_o_now_paid, .ref a_o_now_queue, .int v_o_now_asked, .int v_o_now_waiting, .int v_o_now_fee, .int v_o_now_takings])), (a_o_now_prices, .inl (cI, (4, .inl d_o_now_prices))), (a_o_now_free, .inl (cI, (4, .inl d_o_now_free))), (a_o_past, .inr (3, [.ref a_o_past_ring, .int v_o_past_next, .int v_o_past_acts])), (a_o_slots, .inr (6, [.ref a_o_slots_kept, .ref a_o_slots_filled])), (a_o_slots_filled, .inl (cZ, (2, .inl d_o_slots_filled)))]
set_option maxRecDepth 20000 in
theorem iX8_hall_X8 : ∀ w ∈ wsX80, w ∈ wsX8_hall := by decide +kernel
def fX8_hall (v_o_text_length : Int32) (d_o_text_letters : (Nat → Int32)) (v_o_sketch_rows : Int32) (v_o_sketch_awaited : Int32) (d_o_sketch_prices : (Nat → Int32)) (d_o_sketch_seats : (Nat → Int32)) (d_o_sketch_joined : (Nat → Int32)) (d_o_sketch_views : (Nat → Int32)) (v_o_plan_rows : Int32) (v_o_plan_awaited : Int32) (d_o_plan_prices : (Nat → Int32)) (d_o_plan_seats : (Nat → Int32)) (d_o_plan_joined : (Nat → Int32)) (d_o_plan_views : (Nat → Int32)) (v_o_now_asked : Int32) (v_o_now_waiting : Int32) (v_o_now_fee : Int32) (v_o_now_takings : Int32) (d_o_now_prices : (Nat → Int32)) (d_o_now_free : (Nat → Int32)) (v_o_past_acts : Int32) (d_o_slots_filled : (Nat → Int32)) : Option (Int32 × Int32 × Int32 × (Nat → Int32) × (Nat → Int32) × (Nat → Int32) × (Nat → Int32) × Int32 × Int32 × (Nat → Int32) × (Nat → Int32) × (Nat → Int32) × (Nat → Int32) × Int32 × Int32 × Int32 × Int32 × (Nat → Int32) × (Nat → Int32) × Int32 × (Nat → Int32)) := ((fX4_readFrom v_o_sketch_rows v_o_sketch_awaited d_o_sketch_prices d_o_sketch_seats d_o_sketch_joined d_o_sketch_views v_o_text_length d_o_text_letters).bind fun q1 => (if q1.1 = (-9 : Int32) then ((fX4_readFrom v_o_plan_rows v_o_plan_awaited d_o_plan_prices d_o_plan_seats d_o_plan_joined d_o_plan_views v_o_text_length d_o_text_letters).bind fun q3 => ((fX0_open v_o_now_asked v_o_now_waiting v_o_now_fee v_o_now_takings d_o_now_prices d_o_now_free q3.2.1 q3.2.2.2.1 q3.2.2.2.2.1).bind fun q5 => ((fX3_clear v_o_past_acts).bind fun q7 => ((fX6_clear d_o_slots_filled).bind fun q9 => ((fX4_rows q3.2.1).bind fun q11 => some (q11, q1.2.1, q1.2.2.1, q1.2.2.2.1, q1.2.2.2.2.1, q1.2.2.2.2.2.1, q1.2.2.2.2.2.2, q3.2.1, q3.2.2.1, q3.2.2.2.1, q3.2.2.2.2.1, q3.2.2.2.2.2.1, q3.2.2.2.2.2.2, q5.1, q5.2.1, q5.2.2.1, q5.2.2.2.1, q5.2.2.2.2.1, q5.2.2.2.2.2, q7, q9)))))) else some ((-3 : Int32), q1.2.1, q1.2.2.1, q1.2.2.2.1, q1.2.2.2.2.1, q1.2.2.2.2.2.1, q1.2.2.2.2.2.2, v_o_plan_rows, v_o_plan_awaited, d_o_plan_prices, d_o_plan_seats, d_o_plan_joined, d_o_plan_views, v_o_now_asked, v_o_now_waiting, v_o_now_fee, v_o_now_takings, d_o_now_prices, d_o_now_free, v_o_past_acts, d_o_slots_filled)))
set_option maxRecDepth 100000 in
set_option maxHeartbeats 4000000 in
theorem kX8_hall (l : Launch) (D : va_G) (cI cJ cZ cB : ClassId) (a_o : Nat) (a_o_text : Nat) (a_o_sketch : Nat) (a_o_plan : Nat) (a_o_now : Nat) (a_o_copy : Nat) (a_o_past : Nat) (a_o_slots : Nat) (a_o_sights : Nat) (a_o_finder : Nat) (a_o_odds : Nat) (a_o_text_letters : Nat) (a_o_sketch_prices : Nat) (a_o_sketch_seats : Nat) (a_o_sketch_joined : Nat) (a_o_sketch_views : Nat) (a_o_plan_prices : Nat) (a_o_plan_seats : Nat) (a_o_plan_joined : Nat) (a_o_plan_views : Nat) (a_o_now_prices : Nat) (a_o_now_free : Nat) (a_o_now_sizes : Nat) (a_o_now_limits : Nat) (a_o_now_places : Nat) (a_o_now_paid : Nat) (a_o_now_queue : Nat) (a_o_past_ring : Nat) (a_o_slots_kept : Nat) (a_o_slots_filled : Nat) (v_o_seed : Int64) (v_o_text_length : Int32) (d_o_text_letters : (Nat → Int32)) (v_o_sketch_rows : Int32) (v_o_sketch_awaited : Int32) (d_o_sketch_prices : (Nat → Int32)) (d_o_sketch_seats : (Nat → Int32)) (d_o_sketch_joined : (Nat → Int32)) (d_o_sketch_views : (Nat → Int32)) (v_o_plan_rows : Int32) (v_o_plan_awaited : Int32) (d_o_plan_prices : (Nat → Int32)) (d_o_plan_seats : (Nat → Int32)) (d_o_plan_joined : (Nat → Int32)) (d_o_plan_views : (Nat → Int32)) (v_o_now_asked : Int32) (v_o_now_waiting : Int32) (v_o_now_fee : Int32) (v_o_now_takings : Int32) (d_o_now_prices : (Nat → Int32)) (d_o_now_free : (Nat → Int32)) (v_o_past_next : Int32) (v_o_past_acts : Int32) (d_o_slots_filled : (Nat → Int32)) (res : Int32 × Int32 × Int32 × (Nat → Int32) × (Nat → Int32) × (Nat → Int32) × (Nat → Int32) × Int32 × Int32 × (Nat → Int32) × (Nat → Int32) × (Nat → Int32) × (Nat → Int32) × Int32 × Int32 × Int32 × Int32 × (Nat → Int32) × (Nat → Int32) × Int32 × (Nat → Int32)) (hf : fX8_hall v_o_text_length d_o_text_letters v_o_sketch_rows v_o_sketch_awaited d_o_sketch_prices d_o_sketch_seats d_o_sketch_joined d_o_sketch_views v_o_plan_rows v_o_plan_awaited d_o_plan_prices d_o_plan_seats d_o_plan_joined d_o_plan_views v_o_now_asked v_o_now_waiting v_o_now_fee v_o_now_takings d_o_now_prices d_o_now_free v_o_past_acts d_o_slots_filled = some res) : Rw l yX8_hall wsX8_hall ({ frames := 5, cells := 0, slots := 0, locals := 105 } : Room) D (tyL cI cJ cZ cB) [.ref a_o] (WX8_hall cI cJ cZ cB a_o a_o_text a_o_sketch a_o_plan a_o_now a_o_copy a_o_past a_o_slots a_o_sights a_o_finder a_o_odds a_o_text_letters a_o_sketch_prices a_o_sketch_seats a_o_sketch_joined a_o_sketch_views a_o_plan_prices a_o_plan_seats a_o_plan_joined a_o_plan_views a_o_now_prices a_o_now_free a_o_now_sizes a_o_now_limits a_o_now_places a_o_now_paid a_o_now_queue a_o_past_ring a_o_slots_kept a_o_slots_filled v_o_seed v_o_text_length d_o_text_letters v_o_sketch_rows v_o_sketch_awaited d_o_sketch_prices d_o_sketch_seats d_o_sketch_joined d_o_sketch_views v_o_plan_rows v_o_plan_awaited d_o_plan_prices d_o_plan_seats d_o_plan_joined d_o_plan_views v_o_now_asked v_o_now_waiting v_o_now_fee v_o_now_takings d_o_now_prices d_o_now_free v_o_past_next v_o_past_acts d_o_slots_filled) (some (.int res.1)) (WX8_hall cI cJ cZ cB a_o a_o_text a_o_sketch a_o_plan a_o_now a_o_copy a_o_past a_o_slots a_o_sights a_o_finder a_o_odds a_o_text_letters a_o_sketch_prices a_o_sketch_seats a_o_sketch_joined a_o_sketch_views a_o_plan_prices a_o_plan_seats a_o_plan_joined a_o_plan_views a_o_now_prices a_o_now_free a_o_now_sizes a_o_now_limits a_o_now_places a_o_now_paid a_o_now_queue a_o_past_ring a_o_slots_kept a_o_slots_filled v_o_seed v_o_text_length d_o_text_letters res.2.1 res.2.2.1 res.2.2.2.1 res.2.2.2.2.1 res.2.2.2.2.2.1 res.2.2.2.2.2.2.1 res.2.2.2.2.2.2.2.1 res.2.2.2.2.2.2.2.2.1 res.2.2.2.2.2.2.2.2.2.1 res.2.2.2.2.2.2.2.2.2.2.1 res.2.2.2.2.2.2.2.2.2.2.2.1 res.2.2.2.2.2.2.2.2.2.2.2.2.1 res.2.2.2.2.2.2.2.2.2.2.2.2.2.1 res.2.2.2.2.2.2.2.2.2.2.2.2.2.2.1 res.2.2.2.2.2.2.2.2.2.2.2.2.2.2.2.1 res.2.2.2.2.2.2.2.2.2.2.2.2.2.2.2.2.1 res.2.2.2.2.2.2.2.2.2.2.2.2.2.2.2.2.2.1 res.2.2.2.2.2.2.2.2.2.2.2.2.2.2.2.2.2.2.1 v_o_past_next res.2.2.2.2.2.2.2.2.2.2.2.2.2.2.2.2.2.2.2.1 res.2.2.2.2.2.2.2.2.2.2.2.2.2.2.2.2.2.2.2.2) := by
  refine Rw.of (cc := cX8_hall) (maxL := 1) (ret := (some .int)) (own := RX8) (by decide) rfl rfl (Nat.le_of_ble_eq_true rfl) ?_
  intro p e s m below meth c A ls C hK hA hP hD hS hl
  obtain ⟨hx, hb, hr, hml, hts, hown, hlk⟩ := id C
  have hl : lv_has ls 1 [(0, .ref a_o)] := hl
  unfold fX8_hall at hf
  refine lv_aload_n hx hb dX8_hall_0 rfl (lv_at hl 0 rfl) ?_
  refine va_get (D := D) (ci := 8) (v := .ref a_o_sketch) (C := RX8) (T := TX8) (N := 11) hx hb hts iX8_hall_X8 hown hK.1 hP 0 rfl rfl 1 (by decide) (hts (.fieldLink RX8 19 "LoneSeats" "sketch" "LLoneSeats$Plan;") (by decide +kernel)) (fun _ h9 => h9) rfl dX8_hall_1 ?_
  refine lv_aload_n hx hb dX8_hall_4 rfl (lv_at hl 0 rfl) ?_
  refine va_get (D := D) (ci := 8) (v := .ref a_o_text) (C := RX8) (T := TX8) (N := 11) hx hb hts iX8_hall_X8 hown hK.1 hP 0 rfl rfl 0 (by decide) (hts (.fieldLink RX8 12 "LoneSeats" "text" "LLoneSeats$Text;") (by decide +kernel)) (fun _ h9 => h9) rfl dX8_hall_5 ?_
  obtain ⟨q1, hq2, hf⟩ := pf_b hf
  have hPc := hP.sub (ws' := (WX4_readFrom cI cJ cZ cB a_o_sketch a_o_sketch_prices a_o_sketch_seats a_o_sketch_joined a_o_sketch_views a_o_text a_o_text_letters v_o_sketch_rows v_o_sketch_awaited d_o_sketch_prices d_o_sketch_seats d_o_sketch_joined d_o_sketch_views v_o_text_length d_o_text_letters)) [3, 4, 5, 6, 7, 1, 2] rfl
  have hDc := hD.sub (ws' := (WX4_readFrom cI cJ cZ cB a_o_sketch a_o_sketch_prices a_o_sketch_seats a_o_sketch_joined a_o_sketch_views a_o_text a_o_text_letters v_o_sketch_rows v_o_sketch_awaited d_o_sketch_prices d_o_sketch_seats d_o_sketch_joined d_o_sketch_views v_o_text_length d_o_text_letters)) [3, 4, 5, 6, 7, 1, 2] (by decide) rfl
  refine cl_rwi (wr := [(a_o, .inr (8, [.ref a_o_text, .ref a_o_sketch, .ref a_o_plan, .ref a_o_now, .ref a_o_copy, .ref a_o_past, .ref a_o_slots, .ref a_o_sights, .ref a_o_finder, .ref a_o_odds, .long v_o_seed])), (a_o_plan, .inr (4, [.ref a_o_plan_prices, .ref a_o_plan_seats, .ref a_o_plan_joined, .ref a_o_plan_views, .int v_o_plan_rows, .int v_o_plan_awaited])), (a_o_plan_prices, .inl (cI, (4, .inl d_o_plan_prices))), (a_o_plan_seats, .inl (cI, (4, .inl d_o_plan_seats))), (a_o_plan_joined, .inl (cI, (4, .inl d_o_plan_joined))), (a_o_plan_views, .inl (cI, (36, .inl d_o_plan_views))), (a_o_now, .inr (0, [.ref a_o_now_prices, .ref a_o_now_free, .ref a_o_now_sizes, .ref a_o_now_limits, .ref a_o_now_places, .ref a_o_now_paid, .ref a_o_now_queue, .int v_o_now_asked, .int v_o_now_waiting, .int v_o_now_fee, .int v_o_now_takings])), (a_o_now_prices, .inl (cI, (4, .inl d_o_now_prices))), (a_o_now_free, .inl (cI, (4, .inl d_o_now_free))), (a_o_past, .inr (3, [.ref a_o_past_ring, .int v_o_past_next, .int v_o_past_acts])), (a_o_slots, .inr (6, [.ref a_o_slots_kept, .ref a_o_slots_filled])), (a_o_slots_filled, .inl (cZ, (2, .inl d_o_slots_filled)))]) (wsN := (WX8_hall cI cJ cZ cB a_o a_o_text a_o_sketch a_o_plan a_o_now a_o_copy a_o_past a_o_slots a_o_sights a_o_finder a_o_odds a_o_text_letters a_o_sketch_prices a_o_sketch_seats a_o_sketch_joined a_o_sketch_views a_o_plan_prices a_o_plan_seats a_o_plan_joined a_o_plan_views a_o_now_prices a_o_now_free a_o_now_sizes a_o_now_limits a_o_now_places a_o_now_paid a_o_now_queue a_o_past_ring a_o_slots_kept a_o_slots_filled v_o_seed v_o_text_length d_o_text_letters q1.2.1 q1.2.2.1 q1.2.2.2.1 q1.2.2.2.2.1 q1.2.2.2.2.2.1 q1.2.2.2.2.2.2 v_o_plan_rows v_o_plan_awaited d_o_plan_prices d_o_plan_seats d_o_plan_joined d_o_plan_views v_o_now_asked v_o_now_waiting v_o_now_fee v_o_now_takings d_o_now_prices d_o_now_free v_o_past_next v_o_past_acts d_o_slots_filled)) (va_runV (As := [.ref a_o_text]) (rest := []) ⟨hx, hb, hml, hown, hts⟩ ((kX4_readFrom l D cI cJ cZ cB a_o_sketch a_o_sketch_prices a_o_sketch_seats a_o_sketch_joined a_o_sketch_views a_o_text a_o_text_letters v_o_sketch_rows v_o_sketch_awaited d_o_sketch_prices d_o_sketch_seats d_o_sketch_joined d_o_sketch_views v_o_text_length d_o_text_letters q1 hq2) _) (cwV 1 hts gX8_hall_X4_readFrom rfl rfl rfl (by decide +kernel) ⟨Nat.le_of_ble_eq_true rfl, Nat.le_of_ble_eq_true rfl⟩) ⟨PRw.blind, va_recv hK.1 hPc (ci := 4) (q0 := 0) rfl rfl, PRw.at hK hPc hDc⟩ rfl rfl hl.1 rfl (lv_room (Nat.le_of_ble_eq_true rfl)) dX8_hall_8 ⟨Nat.zero_le _, Nat.zero_le _⟩) hP hD hS hA [3, 4, 5, 6, 7, 1, 2] [0, 8, 9, 10, 11, 12, 13, 14, 15, 16, 17, 18] [0, 17, 18, 12, 13, 14, 15, 16, 1, 2, 3, 4, 5, 6, 7, 8, 9, 10, 11] rfl rfl (by decide) (by decide) rfl (by decide) (fun H locs hP hD hS => ?_)
  refine lv_bipush (v := (-9 : Int32)) hx hb dX8_hall_11 (by decide) ?_
  refine lv_icmp_eq (tgt := 19) hx hb dX8_hall_13 (by decide) (fun hc => ?_) (fun hc => ?_)
  · have hf := pf_t hc hf
    refine lv_aload_n hx hb dX8_hall_19 rfl (lv_at hl 0 rfl) ?_
    refine va_get (D := D) (ci := 8) (v := .ref a_o_plan) (C := RX8) (T := TX8) (N := 11) hx hb hts iX8_hall_X8 hown hK.1 hP 0 rfl rfl 2 (by decide) (hts (.fieldLink RX8 23 "LoneSeats" "plan" "LLoneSeats$Plan;") (by decide +kernel)) (fun _ h9 => h9) rfl dX8_hall_20 ?_
    refine lv_aload_n hx hb dX8_hall_23 rfl (lv_at hl 0 rfl) ?_
    refine va_get (D := D) (ci := 8) (v := .ref a_o_text) (C := RX8) (T := TX8) (N := 11) hx hb hts iX8_hall_X8 hown hK.1 hP 0 rfl rfl 0 (by decide) (hts (.fieldLink RX8 12 "LoneSeats" "text" "LLoneSeats$Text;") (by decide +kernel)) (fun _ h9 => h9) rfl dX8_hall_24 ?_
    obtain ⟨q3, hq4, hf⟩ := pf_b hf
    have hPc := hP.sub (ws' := (WX4_readFrom cI cJ cZ cB a_o_plan a_o_plan_prices a_o_plan_seats a_o_plan_joined a_o_plan_views a_o_text a_o_text_letters v_o_plan_rows v_o_plan_awaited d_o_plan_prices d_o_plan_seats d_o_plan_joined d_o_plan_views v_o_text_length d_o_text_letters)) [8, 9, 10, 11, 12, 1, 2] rfl
    have hDc := hD.sub (ws' := (WX4_readFrom cI cJ cZ cB a_o_plan a_o_plan_prices a_o_plan_seats a_o_plan_joined a_o_plan_views a_o_text a_o_text_letters v_o_plan_rows v_o_plan_awaited d_o_plan_prices d_o_plan_seats d_o_plan_joined d_o_plan_views v_o_text_length d_o_text_letters)) [8, 9, 10, 11, 12, 1, 2] (by decide) rfl
    refine cl_rwi (wr := [(a_o, .inr (8, [.ref a_o_text, .ref a_o_sketch, .ref a_o_plan, .ref a_o_now, .ref a_o_copy, .ref a_o_past, .ref a_o_slots, .ref a_o_sights, .ref a_o_finder, .ref a_o_odds, .long v_o_seed])), (a_o_sketch, .inr (4, [.ref a_o_sketch_prices, .ref a_o_sketch_seats, .ref a_o_sketch_joined, .ref a_o_sketch_views, .int q1.2.1, .int q1.2.2.1])), (a_o_sketch_prices, .inl (cI, (4, .inl q1.2.2.2.1))), (a_o_sketch_seats, .inl (cI, (4, .inl q1.2.2.2.2.1))), (a_o_sketch_joined, .inl (cI, (4, .inl q1.2.2.2.2.2.1))), (a_o_sketch_views, .inl (cI, (36, .inl q1.2.2.2.2.2.2))), (a_o_now, .inr (0, [.ref a_o_now_prices, .ref a_o_now_free, .ref a_o_now_sizes, .ref a_o_now_limits, .ref a_o_now_places, .ref a_o_now_paid, .ref a_o_now_queue, .int v_o_now_asked, .int v_o_now_waiting, .int v_o_now_fee, .int v_o_now_takings])), (a_o_now_prices, .inl (cI, (4, .inl d_o_now_prices))), (a_o_now_free, .inl (cI, (4, .inl d_o_now_free))), (a_o_past, .inr (3, [.ref a_o_past_ring, .int v_o_past_next, .int v_o_past_acts])), (a_o_slots, .inr (6, [.ref a_o_slots_kept, .ref a_o_slots_filled])), (a_o_slots_filled, .inl (cZ, (2, .inl d_o_slots_filled)))]) (wsN := (WX8_hall cI cJ cZ cB a_o a_o_text a_o_sketch a_o_plan a_o_now a_o_copy a_o_past a_o_slots a_o_sights a_o_finder a_o_odds a_o_text_letters a_o_sketch_prices a_o_sketch_seats a_o_sketch_joined a_o_sketch_views a_o_plan_prices a_o_plan_seats a_o_plan_joined a_o_plan_views a_o_now_prices a_o_now_free a_o_now_sizes a_o_now_limits a_o_now_places a_o_now_paid a_o_now_queue a_o_past_ring a_o_slots_kept a_o_slots_filled v_o_seed v_o_text_length d_o_text_letters q1.2.1 q1.2.2.1 q1.2.2.2.1 q1.2.2.2.2.1 q1.2.2.2.2.2.1 q1.2.2.2.2.2.2 q3.2.1 q3.2.2.1 q3.2.2.2.1 q3.2.2.2.2.1 q3.2.2.2.2.2.1 q3.2.2.2.2.2.2 v_o_now_asked v_o_now_waiting v_o_now_fee v_o_now_takings d_o_now_prices d_o_now_free v_o_past_next v_o_past_acts d_o_slots_filled)) (va_runV (As := [.ref a_o_text]) (rest := []) ⟨hx, hb, hml, hown, hts⟩ ((kX4_readFrom l D cI cJ cZ cB a_o_plan a_o_plan_prices a_o_plan_seats a_o_plan_joined a_o_plan_views a_o_text a_o_text_letters v_o_plan_rows v_o_plan_awaited d_o_plan_prices d_o_plan_seats d_o_plan_joined d_o_plan_views v_o_text_length d_o_text_letters q3 hq4) _) (cwV 1 hts gX8_hall_X4_readFrom rfl rfl rfl (by decide +kernel) ⟨Nat.le_of_ble_eq_true rfl, Nat.le_of_ble_eq_true rfl⟩) ⟨PRw.blind, va_recv hK.1 hPc (ci := 4) (q0 := 0) rfl rfl, PRw.at hK hPc hDc⟩ rfl rfl hl.1 rfl (lv_room (Nat.le_of_ble_eq_true rfl)) dX8_hall_27 ⟨Nat.zero_le _, Nat.zero_le _⟩) hP hD hS hA [8, 9, 10, 11, 12, 1, 2] [0, 3, 4, 5, 6, 7, 13, 14, 15, 16, 17, 18] [0, 17, 18, 1, 2, 3, 4, 5, 12, 13, 14, 15, 16, 6, 7, 8, 9, 10, 11] rfl rfl (by decide) (by decide) rfl (by decide) (fun H locs hP hD hS => ?_)
    refine lv_pop hx hb dX8_hall_30 rfl ?_
    refine lv_aload_n hx hb dX8_hall_31 rfl (lv_at hl 0 rfl) ?_
    refine va_get (D := D) (ci := 8) (v := .ref a_o_now) (C := RX8) (T := TX8) (N := 11) hx hb hts iX8_hall_X8 hown hK.1 hP 0 rfl rfl 3 (by decide) (hts (.fieldLink RX8 29 "LoneSeats" "now" "LLoneSeats$Bookings;") (by decide +kernel)) (fun _ h9 => h9) rfl dX8_hall_32 ?_
    refine lv_aload_n hx hb dX8_hall_35 rfl (lv_at hl 0 rfl) ?_
    refine va_get (D := D) (ci := 8) (v := .ref a_o_plan) (C := RX8) (T := TX8) (N := 11) hx hb hts iX8_hall_X8 hown hK.1 hP 0 rfl rfl 2 (by decide) (hts (.fieldLink RX8 23 "LoneSeats" "plan" "LLoneSeats$Plan;") (by decide +kernel)) (fun _ h9 => h9) rfl dX8_hall_36 ?_
    obtain ⟨q5, hq6, hf⟩ := pf_b hf
    have hPc := hP.sub (ws' := (WX0_open cI cJ cZ cB a_o_now a_o_now_prices a_o_now_free a_o_now_sizes a_o_now_limits a_o_now_places a_o_now_paid a_o_now_queue a_o_plan a_o_plan_prices a_o_plan_seats a_o_plan_joined a_o_plan_views v_o_now_asked v_o_now_waiting v_o_now_fee v_o_now_takings d_o_now_prices d_o_now_free q3.2.1 q3.2.2.1 q3.2.2.2.1 q3.2.2.2.2.1)) [13, 14, 15, 8, 9, 10] rfl
    have hDc := hD.sub (ws' := (WX0_open cI cJ cZ cB a_o_now a_o_now_prices a_o_now_free a_o_now_sizes a_o_now_limits a_o_now_places a_o_now_paid a_o_now_queue a_o_plan a_o_plan_prices a_o_plan_seats a_o_plan_joined a_o_plan_views v_o_now_asked v_o_now_waiting v_o_now_fee v_o_now_takings d_o_now_prices d_o_now_free q3.2.1 q3.2.2.1 q3.2.2.2.1 q3.2.2.2.2.1)) [13, 14, 15, 8, 9, 10] (by decide) rfl
    refine cl_rwv (wr := [(a_o, .inr (8, [.ref a_o_text, .ref a_o_sketch, .ref a_o_plan, .ref a_o_now, .ref a_o_copy, .ref a_o_past, .ref a_o_slots, .ref a_o_sights, .ref a_o_finder, .ref a_o_odds, .long v_o_seed])), (a_o_text, .inr (7, [.ref a_o_text_letters, .int v_o_text_length])), (a_o_text_letters, .inl (cI, (80, .inl d_o_text_letters))), (a_o_sketch, .inr (4, [.ref a_o_sketch_prices, .ref a_o_sketch_seats, .ref a_o_sketch_joined, .ref a_o_sketch_views, .int q1.2.1, .int q1.2.2.1])), (a_o_sketch_prices, .inl (cI, (4, .inl q1.2.2.2.1))), (a_o_sketch_seats, .inl (cI, (4, .inl q1.2.2.2.2.1))), (a_o_sketch_joined, .inl (cI, (4, .inl q1.2.2.2.2.2.1))), (a_o_sketch_views, .inl (cI, (36, .inl q1.2.2.2.2.2.2))), (a_o_plan_joined, .inl (cI, (4, .inl q3.2.2.2.2.2.1))), (a_o_plan_views, .inl (cI, (36, .inl q3.2.2.2.2.2.2))), (a_o_past, .inr (3, [.ref a_o_past_ring, .int v_o_past_next, .int v_o_past_acts])), (a_o_slots, .inr (6, [.ref a_o_slots_kept, .ref a_o_slots_filled])), (a_o_slots_filled, .inl (cZ, (2, .inl d_o_slots_filled)))]) (wsN := (WX8_hall cI cJ cZ cB a_o a_o_text a_o_sketch a_o_plan a_o_now a_o_copy a_o_past a_o_slots a_o_sights a_o_finder a_o_odds a_o_text_letters a_o_sketch_prices a_o_sketch_seats a_o_sketch_joined a_o_sketch_views a_o_plan_prices a_o_plan_seats a_o_plan_joined a_o_plan_views a_o_now_prices a_o_now_free a_o_now_sizes a_o_now_limits a_o_now_places a_o_now_paid a_o_now_queue a_o_past_ring a_o_slots_kept a_o_slots_filled v_o_seed v_o_text_length d_o_text_letters q1.2.1 q1.2.2.1 q1.2.2.2.1 q1.2.2.2.2.1 q1.2.2.2.2.2.1 q1.2.2.2.2.2.2 q3.2.1 q3.2.2.1 q3.2.2.2.1 q3.2.2.2.2.1 q3.2.2.2.2.2.1 q3.2.2.2.2.2.2 q5.1 q5.2.1 q5.2.2.1 q5.2.2.2.1 q5.2.2.2.2.1 q5.2.2.2.2.2 v_o_past_next v_o_past_acts d_o_slots_filled)) (va_runV (As := [.ref a_o_plan]) (rest := []) ⟨hx, hb, hml, hown, hts⟩ ((kX0_open l D cI cJ cZ cB a_o_now a_o_now_prices a_o_now_free a_o_now_sizes a_o_now_limits a_o_now_places a_o_now_paid a_o_now_queue a_o_plan a_o_plan_prices a_o_plan_seats a_o_plan_joined a_o_plan_views v_o_now_asked v_o_now_waiting v_o_now_fee v_o_now_takings d_o_now_prices d_o_now_free q3.2.1 q3.2.2.1 q3.2.2.2.1 q3.2.2.2.2.1 q5 hq6) _) (cwV 1 hts gX8_hall_X0_open rfl rfl rfl (by decide +kernel) ⟨Nat.le_of_ble_eq_true rfl, Nat.le_of_ble_eq_true rfl⟩) ⟨PRw.blind, va_recv hK.1 hPc (ci := 0) (q0 := 0) rfl rfl, PRw.at hK hPc hDc⟩ rfl rfl hl.1 rfl (lv_room (Nat.le_of_ble_eq_true rfl)) dX8_hall_39 ⟨Nat.zero_le _, Nat.zero_le _⟩) hP hD hS hA [13, 14, 15, 8, 9, 10] [0, 1, 2, 3, 4, 5, 6, 7, 11, 12, 16, 17, 18] [0, 1, 2, 3, 4, 5, 6, 7, 16, 17, 18, 8, 9, 13, 14, 15, 10, 11, 12] rfl rfl (by decide) (by decide) rfl (by decide) (fun H locs hP hD hS => ?_)
    refine lv_aload_n hx hb dX8_hall_42 rfl (lv_at hl 0 rfl) ?_
    refine va_get (D := D) (ci := 8) (v := .ref a_o_past) (C := RX8) (T := TX8) (N := 11) hx hb hts iX8_hall_X8 hown hK.1 hP 0 rfl rfl 5 (by decide) (hts (.fieldLink RX8 39 "LoneSeats" "past" "LLoneSeats$Past;") (by decide +kernel)) (fun _ h9 => h9) rfl dX8_hall_43 ?_
    obtain ⟨q7, hq8, hf⟩ := pf_b hf
    have hPc := hP.sub (ws' := (WX3_clear cI cJ cZ cB a_o_past a_o_past_ring v_o_past_next v_o_past_acts)) [16] rfl
    have hDc := hD.sub (ws' := (WX3_clear cI cJ cZ cB a_o_past a_o_past_ring v_o_past_next v_o_past_acts)) [16] (by decide) rfl
    refine cl_rwv (wr := [(a_o, .inr (8, [.ref a_o_text, .ref a_o_sketch, .ref a_o_plan, .ref a_o_now, .ref a_o_copy, .ref a_o_past, .ref a_o_slots, .ref a_o_sights, .ref a_o_finder, .ref a_o_odds, .long v_o_seed])), (a_o_text, .inr (7, [.ref a_o_text_letters, .int v_o_text_length])), (a_o_text_letters, .inl (cI, (80, .inl d_o_text_letters))), (a_o_sketch, .inr (4, [.ref a_o_sketch_prices, .ref a_o_sketch_seats, .ref a_o_sketch_joined, .ref a_o_sketch_views, .int q1.2.1, .int q1.2.2.1])), (a_o_sketch_prices, .inl (cI, (4, .inl q1.2.2.2.1))), (a_o_sketch_seats, .inl (cI, (4, .inl q1.2.2.2.2.1))), (a_o_sketch_joined, .inl (cI, (4, .inl q1.2.2.2.2.2.1))), (a_o_sketch_views, .inl (cI, (36, .inl q1.2.2.2.2.2.2))), (a_o_plan, .inr (4, [.ref a_o_plan_prices, .ref a_o_plan_seats, .ref a_o_plan_joined, .ref a_o_plan_views, .int q3.2.1, .int q3.2.2.1])), (a_o_plan_prices, .inl (cI, (4, .inl q3.2.2.2.1))), (a_o_plan_seats, .inl (cI, (4, .inl q3.2.2.2.2.1))), (a_o_plan_joined, .inl (cI, (4, .inl q3.2.2.2.2.2.1))), (a_o_plan_views, .inl (cI, (36, .inl q3.2.2.2.2.2.2))), (a_o_now, .inr (0, [.ref a_o_now_prices, .ref a_o_now_free, .ref a_o_now_sizes, .ref a_o_now_limits, .ref a_o_now_places, .ref a_o_now_paid, .ref a_o_now_queue, .int q5.1, .int q5.2.1, .int q5.2.2.1, .int q5.2.2.2.1])), (a_o_now_prices, .inl (cI, (4, .inl q5.2.2.2.2.1))), (a_o_now_free, .inl (cI, (4, .inl q5.2.2.2.2.2))), (a_o_slots, .inr (6, [.ref a_o_slots_kept, .ref a_o_slots_filled])), (a_o_slots_filled, .inl (cZ, (2, .inl d_o_slots_filled)))]) (wsN := (WX8_hall cI cJ cZ cB a_o a_o_text a_o_sketch a_o_plan a_o_now a_o_copy a_o_past a_o_slots a_o_sights a_o_finder a_o_odds a_o_text_letters a_o_sketch_prices a_o_sketch_seats a_o_sketch_joined a_o_sketch_views a_o_plan_prices a_o_plan_seats a_o_plan_joined a_o_plan_views a_o_now_prices a_o_now_free a_o_now_sizes a_o_now_limits a_o_now_places a_o_now_paid a_o_now_queue a_o_past_ring a_o_slots_kept a_o_slots_filled v_o_seed v_o_text_length d_o_text_letters q1.2.1 q1.2.2.1 q1.2.2.2.1 q1.2.2.2.2.1 q1.2.2.2.2.2.1 q1.2.2.2.2.2.2 q3.2.1 q3.2.2.1 q3.2.2.2.1 q3.2.2.2.2.1 q3.2.2.2.2.2.1 q3.2.2.2.2.2.2 q5.1 q5.2.1 q5.2.2.1 q5.2.2.2.1 q5.2.2.2.2.1 q5.2.2.2.2.2 v_o_past_next q7 d_o_slots_filled)) (va_runV (As := []) (rest := []) ⟨hx, hb, hml, hown, hts⟩ ((kX3_clear l D cI cJ cZ cB a_o_past a_o_past_ring v_o_past_next v_o_past_acts q7 hq8) _) (cwV 0 hts gX8_hall_X3_clear rfl rfl rfl (by decide +kernel) ⟨Nat.le_of_ble_eq_true rfl, Nat.le_of_ble_eq_true rfl⟩) ⟨PRw.blind, va_recv hK.1 hPc (ci := 3) (q0 := 0) rfl rfl, PRw.at hK hPc hDc⟩ rfl rfl hl.1 rfl (lv_room (Nat.le_of_ble_eq_true rfl)) dX8_hall_46 ⟨Nat.zero_le _, Nat.zero_le _⟩) hP hD hS hA [16] [0, 1, 2, 3, 4, 5, 6, 7, 8, 9, 10, 11, 12, 13, 14, 15, 17, 18] [0, 1, 2, 3, 4, 5, 6, 7, 8, 9, 10, 11, 12, 13, 14, 15, 18, 16, 17] rfl rfl (by decide) (by decide) rfl (by decide) (fun H locs hP hD hS => ?_)
    refine lv_aload_n hx hb dX8_hall_49 rfl (lv_at hl 0 rfl) ?_
    refine va_get (D := D) (ci := 8) (v := .ref a_o_slots) (C := RX8) (T := TX8) (N := 11) hx hb hts iX8_hall_X8 hown hK.1 hP 0 rfl rfl 6 (by decide) (hts (.fieldLink RX8 46 "LoneSeats" "slots" "LLoneSeats$Slots;") (by decide +kernel)) (fun _ h9 => h9) rfl dX8_hall_50 ?_
    obtain ⟨q9, hq10, hf⟩ := pf_b hf
    have hPc := hP.sub (ws' := (WX6_clear cI cJ cZ cB a_o_slots a_o_slots_kept a_o_slots_filled d_o_slots_filled)) [17, 18] rfl
    have hDc := hD.sub (ws' := (WX6_clear cI cJ cZ cB a_o_slots a_o_slots_kept a_o_slots_filled d_o_slots_filled)) [17, 18] (by decide) rfl
    refine cl_rwv (wr := [(a_o, .inr (8, [.ref a_o_text, .ref a_o_sketch, .ref a_o_plan, .ref a_o_now, .ref a_o_copy, .ref a_o_past, .ref a_o_slots, .ref a_o_sights, .ref a_o_finder, .ref a_o_odds, .long v_o_seed])), (a_o_text, .inr (7, [.ref a_o_text_letters, .int v_o_text_length])), (a_o_text_letters, .inl (cI, (80, .inl d_o_text_letters))), (a_o_sketch, .inr (4, [.ref a_o_sketch_prices, .ref a_o_sketch_seats, .ref a_o_sketch_joined, .ref a_o_sketch_views, .int q1.2.1, .int q1.2.2.1])), (a_o_sketch_prices, .inl (cI, (4, .inl q1.2.2.2.1))), (a_o_sketch_seats, .inl (cI, (4, .inl q1.2.2.2.2.1))), (a_o_sketch_joined, .inl (cI, (4, .inl q1.2.2.2.2.2.1))), (a_o_sketch_views, .inl (cI, (36, .inl q1.2.2.2.2.2.2))), (a_o_plan, .inr (4, [.ref a_o_plan_prices, .ref a_o_plan_seats, .ref a_o_plan_joined, .ref a_o_plan_views, .int q3.2.1, .int q3.2.2.1])), (a_o_plan_prices, .inl (cI, (4, .inl q3.2.2.2.1))), (a_o_plan_seats, .inl (cI, (4, .inl q3.2.2.2.2.1))), (a_o_plan_joined, .inl (cI, (4, .inl q3.2.2.2.2.2.1))), (a_o_plan_views, .inl (cI, (36, .inl q3.2.2.2.2.2.2))), (a_o_now, .inr (0, [.ref a_o_now_prices, .ref a_o_now_free, .ref a_o_now_sizes, .ref a_o_now_limits, .ref a_o_now_places, .ref a_o_now_paid, .ref a_o_now_queue, .int q5.1, .int q5.2.1, .int q5.2.2.1, .int q5.2.2.2.1])), (a_o_now_prices, .inl (cI, (4, .inl q5.2.2.2.2.1))), (a_o_now_free, .inl (cI, (4, .inl q5.2.2.2.2.2))), (a_o_past, .inr (3, [.ref a_o_past_ring, .int v_o_past_next, .int q7]))]) (wsN := (WX8_hall cI cJ cZ cB a_o a_o_text a_o_sketch a_o_plan a_o_now a_o_copy a_o_past a_o_slots a_o_sights a_o_finder a_o_odds a_o_text_letters a_o_sketch_prices a_o_sketch_seats a_o_sketch_joined a_o_sketch_views a_o_plan_prices a_o_plan_seats a_o_plan_joined a_o_plan_views a_o_now_prices a_o_now_free a_o_now_sizes a_o_now_limits a_o_now_places a_o_now_paid a_o_now_queue a_o_past_ring a_o_slots_kept a_o_slots_filled v_o_seed v_o_text_length d_o_text_letters q1.2.1 q1.2.2.1 q1.2.2.2.1 q1.2.2.2.2.1 q1.2.2.2.2.2.1 q1.2.2.2.2.2.2 q3.2.1 q3.2.2.1 q3.2.2.2.1 q3.2.2.2.2.1 q3.2.2.2.2.2.1 q3.2.2.2.2.2.2 q5.1 q5.2.1 q5.2.2.1 q5.2.2.2.1 q5.2.2.2.2.1 q5.2.2.2.2.2 v_o_past_next q7 q9)) (va_runV (As := []) (rest := []) ⟨hx, hb, hml, hown, hts⟩ ((kX6_clear l D cI cJ cZ cB a_o_slots a_o_slots_kept a_o_slots_filled d_o_slots_filled q9 hq10) _) (cwV 0 hts gX8_hall_X6_clear rfl rfl rfl (by decide +kernel) ⟨Nat.le_of_ble_eq_true rfl, Nat.le_of_ble_eq_true rfl⟩) ⟨PRw.blind, va_recv hK.1 hPc (ci := 6) (q0 := 0) rfl rfl, PRw.at hK hPc hDc⟩ rfl rfl hl.1 rfl (lv_room (Nat.le_of_ble_eq_true rfl)) dX8_hall_53 ⟨Nat.zero_le _, Nat.zero_le _⟩) hP hD hS hA [17, 18] [0, 1, 2, 3, 4, 5, 6, 7, 8, 9, 10, 11, 12, 13, 14, 15, 16] [0, 1, 2, 3, 4, 5, 6, 7, 8, 9, 10, 11, 12, 13, 14, 15, 16, 17, 18] rfl rfl (by decide) (by decide) rfl (by decide) (fun H locs hP hD hS => ?_)
    refine lv_aload_n hx hb dX8_hall_56 rfl (lv_at hl 0 rfl) ?_
    refine va_get (D := D) (ci := 8) (v := .ref a_o_plan) (C := RX8) (T := TX8) (N := 11) hx hb hts iX8_hall_X8 hown hK.1 hP 0 rfl rfl 2 (by decide) (hts (.fieldLink RX8 23 "LoneSeats" "plan" "LLoneSeats$Plan;") (by decide +kernel)) (fun _ h9 => h9) rfl dX8_hall_57 ?_
    obtain ⟨q11, hq12, hf⟩ := pf_b hf
    have hPc := hP.sub (ws' := (WX4_rows cI cJ cZ cB a_o_plan a_o_plan_prices a_o_plan_seats a_o_plan_joined a_o_plan_views q3.2.1 q3.2.2.1)) [8] rfl
    refine cl_roi (va_runV (As := []) (rest := []) ⟨hx, hb, hml, hown, hts⟩ (kX4_rows l D cI cJ cZ cB a_o_plan a_o_plan_prices a_o_plan_seats a_o_plan_joined a_o_plan_views q3.2.1 q3.2.2.1 q11 hq12) (cwV 0 hts gX8_hall_X4_rows rfl rfl rfl (by decide +kernel) ⟨Nat.le_of_ble_eq_true rfl, Nat.le_of_ble_eq_true rfl⟩) ⟨PRo.blind, va_recv hK.1 hPc (ci := 4) (q0 := 0) rfl rfl, PRo.at hK hPc⟩ rfl rfl hl.1 rfl (lv_room (Nat.le_of_ble_eq_true rfl)) dX8_hall_60 ⟨Nat.zero_le _, Nat.zero_le _⟩) ?_
    cases hf
    exact W.iret (v := q11) hx hb hr (fun t ht hW => ⟨⟨rfl, by rw [ht]; exact hP, hD⟩, hS.F ht⟩) hS.2.2 dX8_hall_63
  · have hf := pf_f hc hf
    refine lv_bipush (v := (-3 : Int32)) hx hb dX8_hall_16 (by decide) ?_
    cases hf
    exact W.iret (v := (-3 : Int32)) hx hb hr (fun t ht hW => ⟨⟨rfl, by rw [ht]; exact hP, hD⟩, hS.F ht⟩) hS.2.2 dX8_hall_18
abbrev WX8_row (cI cJ cZ cB : ClassId) (a_o : Nat) (a_o_text : Nat) (a_o_sketch : Nat) (a_o_plan : Nat) (a_o_now : Nat) (a_o_copy : Nat) (a_o_past : Nat) (a_o_slots : Nat) (a_o_sights : Nat) (a_o_finder : Nat) (a_o_odds : Nat) (a_o_plan_prices : Nat) (a_o_plan_seats : Nat) (a_o_plan_joined : Nat) (a_o_plan_views : Nat) (a_o_now_prices : Nat) (a_o_now_free : Nat) (a_o_now_sizes : Nat) (a_o_now_limits : Nat) (a_o_now_places : Nat) (a_o_now_paid : Nat) (a_o_now_queue : Nat) (v_o_seed : Int64) (v_o_plan_rows : Int32) (v_o_plan_awaited : Int32) (d_o_plan_seats : (Nat → Int32)) (d_o_plan_joined : (Nat → Int32)) (v_o_now_asked : Int32) (v_o_now_waiting : Int32) (v_o_now_fee : Int32) (v_o_now_takings : Int32) (d_o_now_prices : (Nat → Int32)) (d_o_now_free : (Nat → Int32)) : va_W := [(a_o, .inr (8, [.ref a_o_text, .ref a_o_sketch, .ref a_o_plan, .ref a_o_now, .ref a_o_copy, .ref a_o_past, .ref a_o_slots, .ref a_o_sights, .ref a_o_finder, .ref a_o_odds, .long v_o_seed])), (a_o_plan, .inr (4, [.ref a_o_plan_prices, .ref a_o_plan_seats, .ref a_o_plan_joined, .ref a_o_plan_views, .int v_o_plan_rows, .int v_o_plan_awaited])), (a_o_plan_seats, .inl (cI, (4, .inl d_o_plan_seats))), (a_o_plan_joined, .inl (cI, (4, .inl d_o_plan_joined))), (a_o_now, .inr (0, [.ref a_o_now_prices, .ref a_o_now_free, .ref a_o_now_sizes, .ref a_o_now_limits, .ref a_o_now_places, .ref a_o_now_paid, .ref a_o_now_queue, .int v_o_now_asked, .int v_o_now_waiting, .int v_o_now_fee, .int v_o_now_takings])), (a_o_now_prices, .inl (cI, (4, .inl d_o_now_prices))), (a_o_now_free, .inl (cI, (4, .inl d_o_now_free)))]
set_option maxRecDepth 20000 in
theorem iX8_row_X8 : ∀ w ∈ wsX80, w ∈ wsX8_row := by decide +kernel
def fX8_row (v_o_plan_rows : Int32) (d_o_plan_seats : (Nat → Int32)) (d_o_plan_joined : (Nat → Int32)) (d_o_now_prices : (Nat → Int32)) (d_o_now_free : (Nat → Int32)) (x1 : Int32) (x2 : Int32) : Option (Int32) := ((fX4_hasRow v_o_plan_rows x1).bind fun q1 => (if q1 = 0 then some (-1 : Int32) else (if x2 = (0 : Int32) then ((fX0_priceOf d_o_now_prices x1).bind fun q4 => some q4) else (if x2 = (1 : Int32) then ((fX4_seatsIn v_o_plan_rows d_o_plan_seats x1).bind fun q7 => some q7) else (if x2 = (2 : Int32) then ((fX4_blocksIn v_o_plan_rows d_o_plan_seats d_o_plan_joined x1).bind fun q10 => some q10) else (if x2 = (3 : Int32) then ((fX0_freeIn d_o_now_free x1).bind fun q13 => some q13) else (if x2 = (4 : Int32) then ((fX0_freeIn d_o_now_free x1).bind fun q16 => ((fX4_loneOf v_o_plan_rows d_o_plan_joined x1 q16).bind fun q18 => some q18)) else some (-2 : Int32))))))))
set_option maxRecDepth 100000 in
set_option maxHeartbeats 4000000 in
theorem kX8_row (l : Launch) (D : va_G) (cI cJ cZ cB : ClassId) (a_o : Nat) (a_o_text : Nat) (a_o_sketch : Nat) (a_o_plan : Nat) (a_o_now : Nat) (a_o_copy : Nat) (a_o_past : Nat) (a_o_slots : Nat) (a_o_sights : Nat) (a_o_finder : Nat) (a_o_odds : Nat) (a_o_plan_prices : Nat) (a_o_plan_seats : Nat) (a_o_plan_joined : Nat) (a_o_plan_views : Nat) (a_o_now_prices : Nat) (a_o_now_free : Nat) (a_o_now_sizes : Nat) (a_o_now_limits : Nat) (a_o_now_places : Nat) (a_o_now_paid : Nat) (a_o_now_queue : Nat) (v_o_seed : Int64) (v_o_plan_rows : Int32) (v_o_plan_awaited : Int32) (d_o_plan_seats : (Nat → Int32)) (d_o_plan_joined : (Nat → Int32)) (v_o_now_asked : Int32) (v_o_now_waiting : Int32) (v_o_now_fee : Int32) (v_o_now_takings : Int32) (d_o_now_prices : (Nat → Int32)) (d_o_now_free : (Nat → Int32)) (x1 : Int32) (x2 : Int32) (res : Int32) (hf : fX8_row v_o_plan_rows d_o_plan_seats d_o_plan_joined d_o_now_prices d_o_now_free x1 x2 = some res) : Ro l yX8_row wsX8_row ({ frames := 2, cells := 0, slots := 0, locals := 45 } : Room) D (tyL cI cJ cZ cB) [.ref a_o, .int x1, .int x2] (WX8_row cI cJ cZ cB a_o a_o_text a_o_sketch a_o_plan a_o_now a_o_copy a_o_past a_o_slots a_o_sights a_o_finder a_o_odds a_o_plan_prices a_o_plan_seats a_o_plan_joined a_o_plan_views a_o_now_prices a_o_now_free a_o_now_sizes a_o_now_limits a_o_now_places a_o_now_paid a_o_now_queue v_o_seed v_o_plan_rows v_o_plan_awaited d_o_plan_seats d_o_plan_joined v_o_now_asked v_o_now_waiting v_o_now_fee v_o_now_takings d_o_now_prices d_o_now_free) (some (.int res)) := by
  refine Ro.of (cc := cX8_row) (maxL := 3) (ret := (some .int)) (own := RX8) (by decide) rfl rfl (Nat.le_of_ble_eq_true rfl) ?_
  intro p e s m below meth c ls C hK hP hl
  obtain ⟨hx, hb, hr, hml, hts, hown, hlk⟩ := id C
  have hl : lv_has ls 3 [(0, .ref a_o), (1, .int x1), (2, .int x2)] := hl
  unfold fX8_row at hf
  refine lv_aload_n hx hb dX8_row_0 rfl (lv_at hl 0 rfl) ?_
  refine va_get (D := D) (ci := 8) (v := .ref a_o_plan) (C := RX8) (T := TX8) (N := 11) hx hb hts iX8_row_X8 hown hK.1 hP 0 rfl rfl 2 (by decide) (hts (.fieldLink RX8 23 "LoneSeats" "plan" "LLoneSeats$Plan;") (by decide +kernel)) (fun _ h9 => h9) rfl dX8_row_1 ?_
  refine lv_iload_n hx hb dX8_row_4 rfl (lv_at hl 1 rfl) ?_
  obtain ⟨q1, hq2, hf⟩ := pf_b hf
  have hPc := hP.sub (ws' := (WX4_hasRow cI cJ cZ cB a_o_plan a_o_plan_prices a_o_plan_seats a_o_plan_joined a_o_plan_views v_o_plan_rows v_o_plan_awaited)) [1] rfl
  refine cl_roi (va_runV (As := [.int x1]) (rest := []) ⟨hx, hb, hml, hown, hts⟩ (kX4_hasRow l D cI cJ cZ cB a_o_plan a_o_plan_prices a_o_plan_seats a_o_plan_joined a_o_plan_views v_o_plan_rows v_o_plan_awaited x1 q1 hq2) (cwV 1 hts gX8_row_X4_hasRow rfl rfl rfl (by decide +kernel) ⟨Nat.le_of_ble_eq_true rfl, Nat.le_of_ble_eq_true rfl⟩) ⟨PRo.blind, va_recv hK.1 hPc (ci := 4) (q0 := 0) rfl rfl, PRo.at hK hPc⟩ rfl rfl hl.1 rfl (lv_room (Nat.le_of_ble_eq_true rfl)) dX8_row_5 ⟨Nat.zero_le _, Nat.zero_le _⟩) ?_
  refine lv_if_ne (tgt := 13) hx hb dX8_row_8 (by decide) (fun hc => ?_) (fun hc => ?_)
  · have hf := pf_f hc hf
    refine lv_iload_n hx hb dX8_row_13 rfl (lv_at hl 2 rfl) ?_
    by_cases hs3 : x2 = (0 : Int32)
    · have hf := pf_t hs3 hf
      refine lv_tableIn (tgt := 48) (off := 34) hx hb dX8_row_14 (by rw [hs3]; decide) (by rw [hs3]; decide) (by rw [hs3]; rfl) (by decide) ?_
      refine lv_aload_n hx hb dX8_row_48 rfl (lv_at hl 0 rfl) ?_
      refine va_get (D := D) (ci := 8) (v := .ref a_o_now) (C := RX8) (T := TX8) (N := 11) hx hb hts iX8_row_X8 hown hK.1 hP 0 rfl rfl 3 (by decide) (hts (.fieldLink RX8 29 "LoneSeats" "now" "LLoneSeats$Bookings;") (by decide +kernel)) (fun _ h9 => h9) rfl dX8_row_49 ?_
      refine lv_iload_n hx hb dX8_row_52 rfl (lv_at hl 1 rfl) ?_
      obtain ⟨q4, hq5, hf⟩ := pf_b hf
      have hPc := hP.sub (ws' := (WX0_priceOf cI cJ cZ cB a_o_now a_o_now_prices a_o_now_free a_o_now_sizes a_o_now_limits a_o_now_places a_o_now_paid a_o_now_queue v_o_now_asked v_o_now_waiting v_o_now_fee v_o_now_takings d_o_now_prices)) [4, 5] rfl
      refine cl_roi (va_runV (As := [.int x1]) (rest := []) ⟨hx, hb, hml, hown, hts⟩ (kX0_priceOf l D cI cJ cZ cB a_o_now a_o_now_prices a_o_now_free a_o_now_sizes a_o_now_limits a_o_now_places a_o_now_paid a_o_now_queue v_o_now_asked v_o_now_waiting v_o_now_fee v_o_now_takings d_o_now_prices x1 q4 hq5) (cwV 1 hts gX8_row_X0_priceOf rfl rfl rfl (by decide +kernel) ⟨Nat.le_of_ble_eq_true rfl, Nat.le_of_ble_eq_true rfl⟩) ⟨PRo.blind, va_recv hK.1 hPc (ci := 0) (q0 := 0) rfl rfl, PRo.at hK hPc⟩ rfl rfl hl.1 rfl (lv_room (Nat.le_of_ble_eq_true rfl)) dX8_row_53 ⟨Nat.zero_le _, Nat.zero_le _⟩) ?_
      cases hf
      exact W.iret (v := q4) hx hb hr (fun t ht hW => ⟨rfl, ht⟩) (fun _ h => absurd h List.not_mem_nil) dX8_row_56
    · have hf := pf_f hs3 hf
      by_cases hs6 : x2 = (1 : Int32)
      · have hf := pf_t hs6 hf
        refine lv_tableIn (tgt := 57) (off := 43) hx hb dX8_row_14 (by rw [hs6]; decide) (by rw [hs6]; decide) (by rw [hs6]; rfl) (by decide) ?_
        refine lv_aload_n hx hb dX8_row_57 rfl (lv_at hl 0 rfl) ?_
        refine va_get (D := D) (ci := 8) (v := .ref a_o_plan) (C := RX8) (T := TX8) (N := 11) hx hb hts iX8_row_X8 hown hK.1 hP 0 rfl rfl 2 (by decide) (hts (.fieldLink RX8 23 "LoneSeats" "plan" "LLoneSeats$Plan;") (by decide +kernel)) (fun _ h9 => h9) rfl dX8_row_58 ?_
        refine lv_iload_n hx hb dX8_row_61 rfl (lv_at hl 1 rfl) ?_
        obtain ⟨q7, hq8, hf⟩ := pf_b hf
        have hPc := hP.sub (ws' := (WX4_seatsIn cI cJ cZ cB a_o_plan a_o_plan_prices a_o_plan_seats a_o_plan_joined a_o_plan_views v_o_plan_rows v_o_plan_awaited d_o_plan_seats)) [1, 2] rfl
        refine cl_roi (va_runV (As := [.int x1]) (rest := []) ⟨hx, hb, hml, hown, hts⟩ (kX4_seatsIn l D cI cJ cZ cB a_o_plan a_o_plan_prices a_o_plan_seats a_o_plan_joined a_o_plan_views v_o_plan_rows v_o_plan_awaited d_o_plan_seats x1 q7 hq8) (cwV 1 hts gX8_row_X4_seatsIn rfl rfl rfl (by decide +kernel) ⟨Nat.le_of_ble_eq_true rfl, Nat.le_of_ble_eq_true rfl⟩) ⟨PRo.blind, va_recv hK.1 hPc (ci := 4) (q0 := 0) rfl rfl, PRo.at hK hPc⟩ rfl rfl hl.1 rfl (lv_room (Nat.le_of_ble_eq_true rfl)) dX8_row_62 ⟨Nat.zero_le _, Nat.zero_le _⟩) ?_
        cases hf
        exact W.iret (v := q7) hx hb hr (fun t ht hW => ⟨rfl, ht⟩) (fun _ h => absurd h List.not_mem_nil) dX8_row_65
      · have hf := pf_f hs6 hf
        by_cases hs9 : x2 = (2 : Int32)
        · have hf := pf_t hs9 hf
          refine lv_tableIn (tgt := 66) (off := 52) hx hb dX8_row_14 (by rw [hs9]; decide) (by rw [hs9]; decide) (by rw [hs9]; rfl) (by decide) ?_
          refine lv_aload_n hx hb dX8_row_66 rfl (lv_at hl 0 rfl) ?_
          refine va_get (D := D) (ci := 8) (v := .ref a_o_plan) (C := RX8) (T := TX8) (N := 11) hx hb hts iX8_row_X8 hown hK.1 hP 0 rfl rfl 2 (by decide) (hts (.fieldLink RX8 23 "LoneSeats" "plan" "LLoneSeats$Plan;") (by decide +kernel)) (fun _ h9 => h9) rfl dX8_row_67 ?_
          refine lv_iload_n hx hb dX8_row_70 rfl (lv_at hl 1 rfl) ?_
          obtain ⟨q10, hq11, hf⟩ := pf_b hf
          have hPc := hP.sub (ws' := (WX4_blocksIn cI cJ cZ cB a_o_plan a_o_plan_prices a_o_plan_seats a_o_plan_joined a_o_plan_views v_o_plan_rows v_o_plan_awaited d_o_plan_seats d_o_plan_joined)) [1, 2, 3] rfl
          refine cl_roi (va_runV (As := [.int x1]) (rest := []) ⟨hx, hb, hml, hown, hts⟩ (kX4_blocksIn l D cI cJ cZ cB a_o_plan a_o_plan_prices a_o_plan_seats a_o_plan_joined a_o_plan_views v_o_plan_rows v_o_plan_awaited d_o_plan_seats d_o_plan_joined x1 q10 hq11) (cwV 1 hts gX8_row_X4_blocksIn rfl rfl rfl (by decide +kernel) ⟨Nat.le_of_ble_eq_true rfl, Nat.le_of_ble_eq_true rfl⟩) ⟨PRo.blind, va_recv hK.1 hPc (ci := 4) (q0 := 0) rfl rfl, PRo.at hK hPc⟩ rfl rfl hl.1 rfl (lv_room (Nat.le_of_ble_eq_true rfl)) dX8_row_71 ⟨Nat.zero_le _, Nat.zero_le _⟩) ?_
          cases hf
          exact W.iret (v := q10) hx hb hr (fun t ht hW => ⟨rfl, ht⟩) (fun _ h => absurd h List.not_mem_nil) dX8_row_74
        · have hf := pf_f hs9 hf
          by_cases hs12 : x2 = (3 : Int32)
          · have hf := pf_t hs12 hf
            refine lv_tableIn (tgt := 75) (off := 61) hx hb dX8_row_14 (by rw [hs12]; decide) (by rw [hs12]; decide) (by rw [hs12]; rfl) (by decide) ?_
            refine lv_aload_n hx hb dX8_row_75 rfl (lv_at hl 0 rfl) ?_
            refine va_get (D := D) (ci := 8) (v := .ref a_o_now) (C := RX8) (T := TX8) (N := 11) hx hb hts iX8_row_X8 hown hK.1 hP 0 rfl rfl 3 (by decide) (hts (.fieldLink RX8 29 "LoneSeats" "now" "LLoneSeats$Bookings;") (by decide +kernel)) (fun _ h9 => h9) rfl dX8_row_76 ?_
            refine lv_iload_n hx hb dX8_row_79 rfl (lv_at hl 1 rfl) ?_
            obtain ⟨q13, hq14, hf⟩ := pf_b hf
            have hPc := hP.sub (ws' := (WX0_freeIn cI cJ cZ cB a_o_now a_o_now_prices a_o_now_free a_o_now_sizes a_o_now_limits a_o_now_places a_o_now_paid a_o_now_queue v_o_now_asked v_o_now_waiting v_o_now_fee v_o_now_takings d_o_now_free)) [4, 6] rfl
            refine cl_roi (va_runV (As := [.int x1]) (rest := []) ⟨hx, hb, hml, hown, hts⟩ (kX0_freeIn l D cI cJ cZ cB a_o_now a_o_now_prices a_o_now_free a_o_now_sizes a_o_now_limits a_o_now_places a_o_now_paid a_o_now_queue v_o_now_asked v_o_now_waiting v_o_now_fee v_o_now_takings d_o_now_free x1 q13 hq14) (cwV 1 hts gX8_row_X0_freeIn rfl rfl rfl (by decide +kernel) ⟨Nat.le_of_ble_eq_true rfl, Nat.le_of_ble_eq_true rfl⟩) ⟨PRo.blind, va_recv hK.1 hPc (ci := 0) (q0 := 0) rfl rfl, PRo.at hK hPc⟩ rfl rfl hl.1 rfl (lv_room (Nat.le_of_ble_eq_true rfl)) dX8_row_80 ⟨Nat.zero_le _, Nat.zero_le _⟩) ?_
            cases hf
            exact W.iret (v := q13) hx hb hr (fun t ht hW => ⟨rfl, ht⟩) (fun _ h => absurd h List.not_mem_nil) dX8_row_83
          · have hf := pf_f hs12 hf
            by_cases hs15 : x2 = (4 : Int32)
            · have hf := pf_t hs15 hf
              refine lv_tableIn (tgt := 84) (off := 70) hx hb dX8_row_14 (by rw [hs15]; decide) (by rw [hs15]; decide) (by rw [hs15]; rfl) (by decide) ?_
              refine lv_aload_n hx hb dX8_row_84 rfl (lv_at hl 0 rfl) ?_
              refine va_get (D := D) (ci := 8) (v := .ref a_o_plan) (C := RX8) (T := TX8) (N := 11) hx hb hts iX8_row_X8 hown hK.1 hP 0 rfl rfl 2 (by decide) (hts (.fieldLink RX8 23 "LoneSeats" "plan" "LLoneSeats$Plan;") (by decide +kernel)) (fun _ h9 => h9) rfl dX8_row_85 ?_
              refine lv_iload_n hx hb dX8_row_88 rfl (lv_at hl 1 rfl) ?_
              refine lv_aload_n hx hb dX8_row_89 rfl (lv_at hl 0 rfl) ?_
              refine va_get (D := D) (ci := 8) (v := .ref a_o_now) (C := RX8) (T := TX8) (N := 11) hx hb hts iX8_row_X8 hown hK.1 hP 0 rfl rfl 3 (by decide) (hts (.fieldLink RX8 29 "LoneSeats" "now" "LLoneSeats$Bookings;") (by decide +kernel)) (fun _ h9 => h9) rfl dX8_row_90 ?_
              refine lv_iload_n hx hb dX8_row_93 rfl (lv_at hl 1 rfl) ?_
              obtain ⟨q16, hq17, hf⟩ := pf_b hf
              have hPc := hP.sub (ws' := (WX0_freeIn cI cJ cZ cB a_o_now a_o_now_prices a_o_now_free a_o_now_sizes a_o_now_limits a_o_now_places a_o_now_paid a_o_now_queue v_o_now_asked v_o_now_waiting v_o_now_fee v_o_now_takings d_o_now_free)) [4, 6] rfl
              refine cl_roi (va_runV (As := [.int x1]) (rest := [.int x1, .ref a_o_plan]) ⟨hx, hb, hml, hown, hts⟩ (kX0_freeIn l D cI cJ cZ cB a_o_now a_o_now_prices a_o_now_free a_o_now_sizes a_o_now_limits a_o_now_places a_o_now_paid a_o_now_queue v_o_now_asked v_o_now_waiting v_o_now_fee v_o_now_takings d_o_now_free x1 q16 hq17) (cwV 1 hts gX8_row_X0_freeIn rfl rfl rfl (by decide +kernel) ⟨Nat.le_of_ble_eq_true rfl, Nat.le_of_ble_eq_true rfl⟩) ⟨PRo.blind, va_recv hK.1 hPc (ci := 0) (q0 := 0) rfl rfl, PRo.at hK hPc⟩ rfl rfl hl.1 rfl (lv_room (Nat.le_of_ble_eq_true rfl)) dX8_row_94 ⟨Nat.zero_le _, Nat.zero_le _⟩) ?_
              obtain ⟨q18, hq19, hf⟩ := pf_b hf
              have hPc := hP.sub (ws' := (WX4_loneOf cI cJ cZ cB a_o_plan a_o_plan_prices a_o_plan_seats a_o_plan_joined a_o_plan_views v_o_plan_rows v_o_plan_awaited d_o_plan_joined)) [1, 3] rfl
              refine cl_roi (va_runV (As := [.int x1, .int q16]) (rest := []) ⟨hx, hb, hml, hown, hts⟩ (kX4_loneOf l D cI cJ cZ cB a_o_plan a_o_plan_prices a_o_plan_seats a_o_plan_joined a_o_plan_views v_o_plan_rows v_o_plan_awaited d_o_plan_joined x1 q16 q18 hq19) (cwV 2 hts gX8_row_X4_loneOf rfl rfl rfl (by decide +kernel) ⟨Nat.le_of_ble_eq_true rfl, Nat.le_of_ble_eq_true rfl⟩) ⟨PRo.blind, va_recv hK.1 hPc (ci := 4) (q0 := 0) rfl rfl, PRo.at hK hPc⟩ rfl rfl hl.1 rfl (lv_room (Nat.le_of_ble_eq_true rfl)) dX8_row_97 ⟨Nat.zero_le _, Nat.zero_le _⟩) ?_
              cases hf
              exact W.iret (v := q18) hx hb hr (fun t ht hW => ⟨rfl, ht⟩) (fun _ h => absurd h List.not_mem_nil) dX8_row_100
            · have hf := pf_f hs15 hf
              refine lv_tableOut (tgt := 101) hx hb dX8_row_14 (by have := lv_neT hs3 (show (0 : Int32).toInt = 0 by decide); have := lv_neT hs6 (show (1 : Int32).toInt = 1 by decide); have := lv_neT hs9 (show (2 : Int32).toInt = 2 by decide); have := lv_neT hs12 (show (3 : Int32).toInt = 3 by decide); have := lv_neT hs15 (show (4 : Int32).toInt = 4 by decide); omega) (by decide) ?_
              refine lv_bipush (v := (-2 : Int32)) hx hb dX8_row_101 (by decide) ?_
              cases hf
              exact W.iret (v := (-2 : Int32)) hx hb hr (fun t ht hW => ⟨rfl, ht⟩) (fun _ h => absurd h List.not_mem_nil) dX8_row_103
  · have hf := pf_t hc hf
    refine lv_iconst (v := (-1 : Int32)) hx hb dX8_row_11 (by decide) ?_
    cases hf
    exact W.iret (v := (-1 : Int32)) hx hb hr (fun t ht hW => ⟨rfl, ht⟩) (fun _ h => absurd h List.not_mem_nil) dX8_row_12
abbrev WX8_seat (cI cJ cZ cB : ClassId) (a_o : Nat) (a_o_text : Nat) (a_o_sketch : Nat) (a_o_plan : Nat) (a_o_now : Nat) (a_o_copy : Nat) (a_o_past : Nat) (a_o_slots : Nat) (a_o_sights : Nat) (a_o_finder : Nat) (a_o_odds : Nat) (a_o_plan_prices : Nat) (a_o_plan_seats : Nat) (a_o_plan_joined : Nat) (a_o_plan_views : Nat) (a_o_now_prices : Nat) (a_o_now_free : Nat) (a_o_now_sizes : Nat) (a_o_now_limits : Nat) (a_o_now_places : Nat) (a_o_now_paid : Nat) (a_o_now_queue : Nat) (v_o_seed : Int64) (v_o_plan_rows : Int32) (v_o_plan_awaited : Int32) (d_o_plan_seats : (Nat → Int32)) (d_o_plan_joined : (Nat → Int32)) (d_o_plan_views : (Nat → Int32)) (v_o_now_asked : Int32) (v_o_now_waiting : Int32) (v_o_now_fee : Int32) (v_o_now_takings : Int32) (d_o_now_sizes : (Nat → Int32)) (d_o_now_places : (Nat → Int32)) : va_W := [(a_o, .inr (8, [.ref a_o_text, .ref a_o_sketch, .ref a_o_plan, .ref a_o_now, .ref a_o_copy, .ref a_o_past, .ref a_o_slots, .ref a_o_sights, .ref a_o_finder, .ref a_o_odds, .long v_o_seed])), (a_o_plan, .inr (4, [.ref a_o_plan_prices, .ref a_o_plan_seats, .ref a_o_plan_joined, .ref a_o_plan_views, .int v_o_plan_rows, .int v_o_plan_awaited])), (a_o_plan_seats, .inl (cI, (4, .inl d_o_plan_seats))), (a_o_plan_joined, .inl (cI, (4, .inl d_o_plan_joined))), (a_o_plan_views, .inl (cI, (36, .inl d_o_plan_views))), (a_o_now, .inr (0, [.ref a_o_now_prices, .ref a_o_now_free, .ref a_o_now_sizes, .ref a_o_now_limits, .ref a_o_now_places, .ref a_o_now_paid, .ref a_o_now_queue, .int v_o_now_asked, .int v_o_now_waiting, .int v_o_now_fee, .int v_o_now_takings])), (a_o_now_sizes, .inl (cI, (31, .inl d_o_now_sizes))), (a_o_now_places, .inl (cI, (31, .inl d_o_now_places)))]
set_option maxRecDepth 20000 in
theorem iX8_seat_X8 : ∀ w ∈ wsX80, w ∈ wsX8_seat := by decide +kernel
def fX8_seat (v_o_plan_rows : Int32) (d_o_plan_seats : (Nat → Int32)) (d_o_plan_joined : (Nat → Int32)) (d_o_plan_views : (Nat → Int32)) (v_o_now_asked : Int32) (d_o_now_sizes : (Nat → Int32)) (d_o_now_places : (Nat → Int32)) (x1 : Int32) (x2 : Int32) (x3 : Int32) : Option (Int32) := ((fX4_hasSeat v_o_plan_rows d_o_plan_seats x1 x2).bind fun q1 => (if q1 = 0 then some (-1 : Int32) else (if x3 = (0 : Int32) then ((fX4_viewOf v_o_plan_rows d_o_plan_seats d_o_plan_views x1 x2).bind fun q4 => some q4) else (if x3 = (1 : Int32) then ((fX4_hasAisleAfter v_o_plan_rows d_o_plan_seats d_o_plan_joined x1 x2).bind fun q7 => (if q7 = 0 then some (0 : Int32) else some (1 : Int32))) else (if x3 = (2 : Int32) then ((fX0_takerOf v_o_now_asked d_o_now_sizes d_o_now_places x1 x2).bind fun q10 => some q10) else some (-2 : Int32))))))
set_option maxRecDepth 100000 in
set_option maxHeartbeats 4000000 in
theorem kX8_seat (l : Launch) (D : va_G) (cI cJ cZ cB : ClassId) (a_o : Nat) (a_o_text : Nat) (a_o_sketch : Nat) (a_o_plan : Nat) (a_o_now : Nat) (a_o_copy : Nat) (a_o_past : Nat) (a_o_slots : Nat) (a_o_sights : Nat) (a_o_finder : Nat) (a_o_odds : Nat) (a_o_plan_prices : Nat) (a_o_plan_seats : Nat) (a_o_plan_joined : Nat) (a_o_plan_views : Nat) (a_o_now_prices : Nat) (a_o_now_free : Nat) (a_o_now_sizes : Nat) (a_o_now_limits : Nat) (a_o_now_places : Nat) (a_o_now_paid : Nat) (a_o_now_queue : Nat) (v_o_seed : Int64) (v_o_plan_rows : Int32) (v_o_plan_awaited : Int32) (d_o_plan_seats : (Nat → Int32)) (d_o_plan_joined : (Nat → Int32)) (d_o_plan_views : (Nat → Int32)) (v_o_now_asked : Int32) (v_o_now_waiting : Int32) (v_o_now_fee : Int32) (v_o_now_takings : Int32) (d_o_now_sizes : (Nat → Int32)) (d_o_now_places : (Nat → Int32)) (x1 : Int32) (x2 : Int32) (x3 : Int32) (res : Int32) (hf : fX8_seat v_o_plan_rows d_o_plan_seats d_o_plan_joined d_o_plan_views v_o_now_asked d_o_now_sizes d_o_now_places x1 x2 x3 = some res) : Ro l yX8_seat wsX8_seat ({ frames := 4, cells := 0, slots := 0, locals := 87 } : Room) D (tyL cI cJ cZ cB) [.ref a_o, .int x1, .int x2, .int x3] (WX8_seat cI cJ cZ cB a_o a_o_text a_o_sketch a_o_plan a_o_now a_o_copy a_o_past a_o_slots a_o_sights a_o_finder a_o_odds a_o_plan_prices a_o_plan_seats a_o_plan_joined a_o_plan_views a_o_now_prices a_o_now_free a_o_now_sizes a_o_now_limits a_o_now_places a_o_now_paid a_o_now_queue v_o_seed v_o_plan_rows v_o_plan_awaited d_o_plan_seats d_o_plan_joined d_o_plan_views v_o_now_asked v_o_now_waiting v_o_now_fee v_o_now_takings d_o_now_sizes d_o_now_places) (some (.int res)) := by
  refine Ro.of (cc := cX8_seat) (maxL := 4) (ret := (some .int)) (own := RX8) (by decide) rfl rfl (Nat.le_of_ble_eq_true rfl) ?_
  intro p e s m below meth c ls C hK hP hl
  obtain ⟨hx, hb, hr, hml, hts, hown, hlk⟩ := id C
  have hl : lv_has ls 4 [(0, .ref a_o), (1, .int x1), (2, .int x2), (3, .int x3)] := hl
  unfold fX8_seat at hf
  refine lv_aload_n hx hb dX8_seat_0 rfl (lv_at hl 0 rfl) ?_
  refine va_get (D := D) (ci := 8) (v := .ref a_o_plan) (C := RX8) (T := TX8) (N := 11) hx hb hts iX8_seat_X8 hown hK.1 hP 0 rfl rfl 2 (by decide) (hts (.fieldLink RX8 23 "LoneSeats" "plan" "LLoneSeats$Plan;") (by decide +kernel)) (fun _ h9 => h9) rfl dX8_seat_1 ?_
  refine lv_iload_n hx hb dX8_seat_4 rfl (lv_at hl 1 rfl) ?_
  refine lv_iload_n hx hb dX8_seat_5 rfl (lv_at hl 2 rfl) ?_
  obtain ⟨q1, hq2, hf⟩ := pf_b hf
  have hPc := hP.sub (ws' := (WX4_hasSeat cI cJ cZ cB a_o_plan a_o_plan_prices a_o_plan_seats a_o_plan_joined a_o_plan_views v_o_plan_rows v_o_plan_awaited d_o_plan_seats)) [1, 2] rfl
  refine cl_roi (va_runV (As := [.int x1, .int x2]) (rest := []) ⟨hx, hb, hml, hown, hts⟩ (kX4_hasSeat l D cI cJ cZ cB a_o_plan a_o_plan_prices a_o_plan_seats a_o_plan_joined a_o_plan_views v_o_plan_rows v_o_plan_awaited d_o_plan_seats x1 x2 q1 hq2) (cwV 2 hts gX8_seat_X4_hasSeat rfl rfl rfl (by decide +kernel) ⟨Nat.le_of_ble_eq_true rfl, Nat.le_of_ble_eq_true rfl⟩) ⟨PRo.blind, va_recv hK.1 hPc (ci := 4) (q0 := 0) rfl rfl, PRo.at hK hPc⟩ rfl rfl hl.1 rfl (lv_room (Nat.le_of_ble_eq_true rfl)) dX8_seat_6 ⟨Nat.zero_le _, Nat.zero_le _⟩) ?_
  refine lv_if_ne (tgt := 14) hx hb dX8_seat_9 (by decide) (fun hc => ?_) (fun hc => ?_)
  · have hf := pf_f hc hf
    refine lv_iload_n hx hb dX8_seat_14 rfl (lv_at hl 3 rfl) ?_
    by_cases hs3 : x3 = (0 : Int32)
    · have hf := pf_t hs3 hf
      refine lv_tableIn (tgt := 40) (off := 25) hx hb dX8_seat_15 (by rw [hs3]; decide) (by rw [hs3]; decide) (by rw [hs3]; rfl) (by decide) ?_
      refine lv_aload_n hx hb dX8_seat_40 rfl (lv_at hl 0 rfl) ?_
      refine va_get (D := D) (ci := 8) (v := .ref a_o_plan) (C := RX8) (T := TX8) (N := 11) hx hb hts iX8_seat_X8 hown hK.1 hP 0 rfl rfl 2 (by decide) (hts (.fieldLink RX8 23 "LoneSeats" "plan" "LLoneSeats$Plan;") (by decide +kernel)) (fun _ h9 => h9) rfl dX8_seat_41 ?_
      refine lv_iload_n hx hb dX8_seat_44 rfl (lv_at hl 1 rfl) ?_
      refine lv_iload_n hx hb dX8_seat_45 rfl (lv_at hl 2 rfl) ?_
      obtain ⟨q4, hq5, hf⟩ := pf_b hf
      have hPc := hP.sub (ws' := (WX4_viewOf cI cJ cZ cB a_o_plan a_o_plan_prices a_o_plan_seats a_o_plan_joined a_o_plan_views v_o_plan_rows v_o_plan_awaited d_o_plan_seats d_o_plan_views)) [1, 2, 4] rfl
      refine cl_roi (va_runV (As := [.int x1, .int x2]) (rest := []) ⟨hx, hb, hml, hown, hts⟩ (kX4_viewOf l D cI cJ cZ cB a_o_plan a_o_plan_prices a_o_plan_seats a_o_plan_joined a_o_plan_views v_o_plan_rows v_o_plan_awaited d_o_plan_seats d_o_plan_views x1 x2 q4 hq5) (cwV 2 hts gX8_seat_X4_viewOf rfl rfl rfl (by decide +kernel) ⟨Nat.le_of_ble_eq_true rfl, Nat.le_of_ble_eq_true rfl⟩) ⟨PRo.blind, va_recv hK.1 hPc (ci := 4) (q0 := 0) rfl rfl, PRo.at hK hPc⟩ rfl rfl hl.1 rfl (lv_room (Nat.le_of_ble_eq_true rfl)) dX8_seat_46 ⟨Nat.zero_le _, Nat.zero_le _⟩) ?_
      cases hf
      exact W.iret (v := q4) hx hb hr (fun t ht hW => ⟨rfl, ht⟩) (fun _ h => absurd h List.not_mem_nil) dX8_seat_49
    · have hf := pf_f hs3 hf
      by_cases hs6 : x3 = (1 : Int32)
      · have hf := pf_t hs6 hf
        refine lv_tableIn (tgt := 50) (off := 35) hx hb dX8_seat_15 (by rw [hs6]; decide) (by rw [hs6]; decide) (by rw [hs6]; rfl) (by decide) ?_
        refine lv_aload_n hx hb dX8_seat_50 rfl (lv_at hl 0 rfl) ?_
        refine va_get (D := D) (ci := 8) (v := .ref a_o_plan) (C := RX8) (T := TX8) (N := 11) hx hb hts iX8_seat_X8 hown hK.1 hP 0 rfl rfl 2 (by decide) (hts (.fieldLink RX8 23 "LoneSeats" "plan" "LLoneSeats$Plan;") (by decide +kernel)) (fun _ h9 => h9) rfl dX8_seat_51 ?_
        refine lv_iload_n hx hb dX8_seat_54 rfl (lv_at hl 1 rfl) ?_
        refine lv_iload_n hx hb dX8_seat_55 rfl (lv_at hl 2 rfl) ?_
        obtain ⟨q7, hq8, hf⟩ := pf_b hf
        have hPc := hP.sub (ws' := (WX4_hasAisleAfter cI cJ cZ cB a_o_plan a_o_plan_prices a_o_plan_seats a_o_plan_joined a_o_plan_views v_o_plan_rows v_o_plan_awaited d_o_plan_seats d_o_plan_joined)) [1, 2, 3] rfl
        refine cl_roi (va_runV (As := [.int x1, .int x2]) (rest := []) ⟨hx, hb, hml, hown, hts⟩ (kX4_hasAisleAfter l D cI cJ cZ cB a_o_plan a_o_plan_prices a_o_plan_seats a_o_plan_joined a_o_plan_views v_o_plan_rows v_o_plan_awaited d_o_plan_seats d_o_plan_joined x1 x2 q7 hq8) (cwV 2 hts gX8_seat_X4_hasAisleAfter rfl rfl rfl (by decide +kernel) ⟨Nat.le_of_ble_eq_true rfl, Nat.le_of_ble_eq_true rfl⟩) ⟨PRo.blind, va_recv hK.1 hPc (ci := 4) (q0 := 0) rfl rfl, PRo.at hK hPc⟩ rfl rfl hl.1 rfl (lv_room (Nat.le_of_ble_eq_true rfl)) dX8_seat_56 ⟨Nat.zero_le _, Nat.zero_le _⟩) ?_
        refine lv_if_eq (tgt := 66) hx hb dX8_seat_59 (by decide) (fun hc => ?_) (fun hc => ?_)
        · have hf := pf_t hc hf
          refine lv_iconst (v := (0 : Int32)) hx hb dX8_seat_66 (by decide) ?_
          cases hf
          exact W.iret (v := (0 : Int32)) hx hb hr (fun t ht hW => ⟨rfl, ht⟩) (fun _ h => absurd h List.not_mem_nil) dX8_seat_67
        · have hf := pf_f hc hf
          refine lv_iconst (v := (1 : Int32)) hx hb dX8_seat_62 (by decide) ?_
          refine lv_goto (tgt := 67) hx hb dX8_seat_63 (by decide) ?_
          cases hf
          exact W.iret (v := (1 : Int32)) hx hb hr (fun t ht hW => ⟨rfl, ht⟩) (fun _ h => absurd h List.not_mem_nil) dX8_seat_67
      · have hf := pf_f hs6 hf
        by_cases hs9 : x3 = (2 : Int32)
        · have hf := pf_t hs9 hf
          refine lv_tableIn (tgt := 68) (off := 53) hx hb dX8_seat_15 (by rw [hs9]; decide) (by rw [hs9]; decide) (by rw [hs9]; rfl) (by decide) ?_
          refine lv_aload_n hx hb dX8_seat_68 rfl (lv_at hl 0 rfl) ?_
          refine va_get (D := D) (ci := 8) (v := .ref a_o_now) (C := RX8) (T := TX8) (N := 11) hx hb hts iX8_seat_X8 hown hK.1 hP 0 rfl rfl 3 (by decide) (hts (.fieldLink RX8 29 "LoneSeats" "now" "LLoneSeats$Bookings;") (by decide +kernel)) (fun _ h9 => h9) rfl dX8_seat_69 ?_
          refine lv_iload_n hx hb dX8_seat_72 rfl (lv_at hl 1 rfl) ?_
          refine lv_iload_n hx hb dX8_seat_73 rfl (lv_at hl 2 rfl) ?_
          obtain ⟨q10, hq11, hf⟩ := pf_b hf
          have hPc := hP.sub (ws' := (WX0_takerOf cI cJ cZ cB a_o_now a_o_now_prices a_o_now_free a_o_now_sizes a_o_now_limits a_o_now_places a_o_now_paid a_o_now_queue v_o_now_asked v_o_now_waiting v_o_now_fee v_o_now_takings d_o_now_sizes d_o_now_places)) [5, 6, 7] rfl
          refine cl_roi (va_runV (As := [.int x1, .int x2]) (rest := []) ⟨hx, hb, hml, hown, hts⟩ (kX0_takerOf l D cI cJ cZ cB a_o_now a_o_now_prices a_o_now_free a_o_now_sizes a_o_now_limits a_o_now_places a_o_now_paid a_o_now_queue v_o_now_asked v_o_now_waiting v_o_now_fee v_o_now_takings d_o_now_sizes d_o_now_places x1 x2 q10 hq11) (cwV 2 hts gX8_seat_X0_takerOf rfl rfl rfl (by decide +kernel) ⟨Nat.le_of_ble_eq_true rfl, Nat.le_of_ble_eq_true rfl⟩) ⟨PRo.blind, va_recv hK.1 hPc (ci := 0) (q0 := 0) rfl rfl, PRo.at hK hPc⟩ rfl rfl hl.1 rfl (lv_room (Nat.le_of_ble_eq_true rfl)) dX8_seat_74 ⟨Nat.zero_le _, Nat.zero_le _⟩) ?_
          cases hf
          exact W.iret (v := q10) hx hb hr (fun t ht hW => ⟨rfl, ht⟩) (fun _ h => absurd h List.not_mem_nil) dX8_seat_77
        · have hf := pf_f hs9 hf
          refine lv_tableOut (tgt := 78) hx hb dX8_seat_15 (by have := lv_neT hs3 (show (0 : Int32).toInt = 0 by decide); have := lv_neT hs6 (show (1 : Int32).toInt = 1 by decide); have := lv_neT hs9 (show (2 : Int32).toInt = 2 by decide); omega) (by decide) ?_
          refine lv_bipush (v := (-2 : Int32)) hx hb dX8_seat_78 (by decide) ?_
          cases hf
          exact W.iret (v := (-2 : Int32)) hx hb hr (fun t ht hW => ⟨rfl, ht⟩) (fun _ h => absurd h List.not_mem_nil) dX8_seat_80
  · have hf := pf_t hc hf
    refine lv_iconst (v := (-1 : Int32)) hx hb dX8_seat_12 (by decide) ?_
    cases hf
    exact W.iret (v := (-1 : Int32)) hx hb hr (fun t ht hW => ⟨rfl, ht⟩) (fun _ h => absurd h List.not_mem_nil) dX8_seat_13
abbrev WX8_party (cI cJ cZ cB : ClassId) (a_o : Nat) (a_o_text : Nat) (a_o_sketch : Nat) (a_o_plan : Nat) (a_o_now : Nat) (a_o_copy : Nat) (a_o_past : Nat) (a_o_slots : Nat) (a_o_sights : Nat) (a_o_finder : Nat) (a_o_odds : Nat) (a_o_now_prices : Nat) (a_o_now_free : Nat) (a_o_now_sizes : Nat) (a_o_now_limits : Nat) (a_o_now_places : Nat) (a_o_now_paid : Nat) (a_o_now_queue : Nat) (v_o_seed : Int64) (v_o_now_asked : Int32) (v_o_now_waiting : Int32) (v_o_now_fee : Int32) (v_o_now_takings : Int32) (d_o_now_sizes : (Nat → Int32)) (d_o_now_limits : (Nat → Int32)) (d_o_now_places : (Nat → Int32)) (d_o_now_paid : (Nat → Int32)) (d_o_now_queue : (Nat → Int32)) : va_W := [(a_o, .inr (8, [.ref a_o_text, .ref a_o_sketch, .ref a_o_plan, .ref a_o_now, .ref a_o_copy, .ref a_o_past, .ref a_o_slots, .ref a_o_sights, .ref a_o_finder, .ref a_o_odds, .long v_o_seed])), (a_o_now, .inr (0, [.ref a_o_now_prices, .ref a_o_now_free, .ref a_o_now_sizes, .ref a_o_now_limits, .ref a_o_now_places, .ref a_o_now_paid, .ref a_o_now_queue, .int v_o_now_asked, .int v_o_now_waiting, .int v_o_now_fee, .int v_o_now_takings])), (a_o_now_sizes, .inl (cI, (31, .inl d_o_now_sizes))), (a_o_now_limits, .inl (cI, (31, .inl d_o_now_limits))), (a_o_now_places, .inl (cI, (31, .inl d_o_now_places))), (a_o_now_paid, .inl (cI, (31, .inl d_o_now_paid))), (a_o_now_queue, .inl (cI, (5, .inl d_o_now_queue)))]
set_option maxRecDepth 20000 in
theorem iX8_party_X8 : ∀ w ∈ wsX80, w ∈ wsX8_party := by decide +kernel
def fX8_party (v_o_now_asked : Int32) (v_o_now_waiting : Int32) (d_o_now_sizes : (Nat → Int32)) (d_o_now_limits : (Nat → Int32)) (d_o_now_places : (Nat → Int32)) (d_o_now_paid : (Nat → Int32)) (d_o_now_queue : (Nat → Int32)) (x1 : Int32) (x2 : Int32) : Option (Int32) := ((fX0_knows v_o_now_asked x1).bind fun q1 => (if q1 = 0 then some (-1 : Int32) else ((fX0_isSeated v_o_now_asked d_o_now_places x1).bind fun q3 => (if x2 = (0 : Int32) then ((fX0_sizeOf v_o_now_asked d_o_now_sizes x1).bind fun q6 => some q6) else (if x2 = (1 : Int32) then ((fX0_limitOf v_o_now_asked d_o_now_limits x1).bind fun q9 => some q9) else (if x2 = (2 : Int32) then (if q3 = 0 then ((fX0_isWaiting v_o_now_waiting d_o_now_queue x1).bind fun q12 => (if q12 = 0 then some (0 : Int32) else some (2 : Int32))) else some (1 : Int32)) else (if x2 = (3 : Int32) then (if q3 = 0 then some (-9 : Int32) else ((fX0_placeOf v_o_now_asked d_o_now_places x1).bind fun q15 => ((fX8_rowOf q15).bind fun q17 => some q17))) else (if x2 = (4 : Int32) then (if q3 = 0 then some (-9 : Int32) else ((fX0_placeOf v_o_now_asked d_o_now_places x1).bind fun q20 => ((fX8_firstOf q20).bind fun q22 => some q22))) else (if x2 = (5 : Int32) then ((fX0_paidBy v_o_now_asked d_o_now_paid x1).bind fun q25 => some q25) else some (-2 : Int32))))))))))
set_option maxRecDepth 100000 in
set_option maxHeartbeats 4000000 in
theorem kX8_party (l : Launch) (D : va_G) (cI cJ cZ cB : ClassId) (a_o : Nat) (a_o_text : Nat) (a_o_sketch : Nat) (a_o_plan : Nat) (a_o_now : Nat) (a_o_copy : Nat) (a_o_past : Nat) (a_o_slots : Nat) (a_o_sights : Nat) (a_o_finder : Nat) (a_o_odds : Nat) (a_o_now_prices : Nat) (a_o_now_free : Nat) (a_o_now_sizes : Nat) (a_o_now_limits : Nat) (a_o_now_places : Nat) (a_o_now_paid : Nat) (a_o_now_queue : Nat) (v_o_seed : Int64) (v_o_now_asked : Int32) (v_o_now_waiting : Int32) (v_o_now_fee : Int32) (v_o_now_takings : Int32) (d_o_now_sizes : (Nat → Int32)) (d_o_now_limits : (Nat → Int32)) (d_o_now_places : (Nat → Int32)) (d_o_now_paid : (Nat → Int32)) (d_o_now_queue : (Nat → Int32)) (x1 : Int32) (x2 : Int32) (res : Int32) (hf : fX8_party v_o_now_asked v_o_now_waiting d_o_now_sizes d_o_now_limits d_o_now_places d_o_now_paid d_o_now_queue x1 x2 = some res) : Ro l yX8_party wsX8_party ({ frames := 3, cells := 0, slots := 0, locals := 63 } : Room) D (tyL cI cJ cZ cB) [.ref a_o, .int x1, .int x2] (WX8_party cI cJ cZ cB a_o a_o_text a_o_sketch a_o_plan a_o_now a_o_copy a_o_past a_o_slots a_o_sights a_o_finder a_o_odds a_o_now_prices a_o_now_free a_o_now_sizes a_o_now_limits a_o_now_places a_o_now_paid a_o_now_queue v_o_seed v_o_now_asked v_o_now_waiting v_o_now_fee v_o_now_takings d_o_now_sizes d_o_now_limits d_o_now_places d_o_now_paid d_o_now_queue) (some (.int res)) := by
  refine Ro.of (cc := cX8_party) (maxL := 4) (ret := (some .int)) (own := RX8) (by decide) rfl rfl (Nat.le_of_ble_eq_true rfl) ?_
  intro p e s m below meth c ls C hK hP hl
  obtain ⟨hx, hb, hr, hml, hts, hown, hlk⟩ := id C
  have hl : lv_has ls 4 [(0, .ref a_o), (1, .int x1), (2, .int x2)] := hl
  unfold fX8_party at hf
  refine lv_aload_n hx hb dX8_party_0 rfl (lv_at hl 0 rfl) ?_
  refine va_get (D := D) (ci := 8) (v := .ref a_o_now) (C := RX8) (T := TX8) (N := 11) hx hb hts iX8_party_X8 hown hK.1 hP 0 rfl rfl 3 (by decide) (hts (.fieldLink RX8 29 "LoneSeats" "now" "LLoneSeats$Bookings;") (by decide +kernel)) (fun _ h9 => h9) rfl dX8_party_1 ?_
  refine lv_iload_n hx hb dX8_party_4 rfl (lv_at hl 1 rfl) ?_
  obtain ⟨q1, hq2, hf⟩ := pf_b hf
  have hPc := hP.sub (ws' := (WX0_knows cI cJ cZ cB a_o_now a_o_now_prices a_o_now_free a_o_now_sizes a_o_now_limits a_o_now_places a_o_now_paid a_o_now_queue v_o_now_asked v_o_now_waiting v_o_now_fee v_o_now_takings)) [1] rfl
  refine cl_roi (va_runV (As := [.int x1]) (rest := []) ⟨hx, hb, hml, hown, hts⟩ (kX0_knows l D cI cJ cZ cB a_o_now a_o_now_prices a_o_now_free a_o_now_sizes a_o_now_limits a_o_now_places a_o_now_paid a_o_now_queue v_o_now_asked v_o_now_waiting v_o_now_fee v_o_now_takings x1 q1 hq2) (cwV 1 hts gX8_party_X0_knows rfl rfl rfl (by decide +kernel) ⟨Nat.le_of_ble_eq_true rfl, Nat.le_of_ble_eq_true rfl⟩) ⟨PRo.blind, va_recv hK.1 hPc (ci := 0) (q0 := 0) rfl rfl, PRo.at hK hPc⟩ rfl rfl hl.1 rfl (lv_room (Nat.le_of_ble_eq_true rfl)) dX8_party_5 ⟨Nat.zero_le _, Nat.zero_le _⟩) ?_
  refine lv_if_ne (tgt := 13) hx hb dX8_party_8 (by decide) (fun hc => ?_) (fun hc => ?_)
  · have hf := pf_f hc hf
    refine lv_aload_n hx hb dX8_party_13 rfl (lv_at hl 0 rfl) ?_
    refine va_get (D := D) (ci := 8) (v := .ref a_o_now) (C := RX8) (T := TX8) (N := 11) hx hb hts iX8_party_X8 hown hK.1 hP 0 rfl rfl 3 (by decide) (hts (.fieldLink RX8 29 "LoneSeats" "now" "LLoneSeats$Bookings;") (by decide +kernel)) (fun _ h9 => h9) rfl dX8_party_14 ?_
    refine lv_iload_n hx hb dX8_party_17 rfl (lv_at hl 1 rfl) ?_
    obtain ⟨q3, hq4, hf⟩ := pf_b hf
    have hPc := hP.sub (ws' := (WX0_isSeated cI cJ cZ cB a_o_now a_o_now_prices a_o_now_free a_o_now_sizes a_o_now_limits a_o_now_places a_o_now_paid a_o_now_queue v_o_now_asked v_o_now_waiting v_o_now_fee v_o_now_takings d_o_now_places)) [1, 4] rfl
    refine cl_roi (va_runV (As := [.int x1]) (rest := []) ⟨hx, hb, hml, hown, hts⟩ (kX0_isSeated l D cI cJ cZ cB a_o_now a_o_now_prices a_o_now_free a_o_now_sizes a_o_now_limits a_o_now_places a_o_now_paid a_o_now_queue v_o_now_asked v_o_now_waiting v_o_now_fee v_o_now_takings d_o_now_places x1 q3 hq4) (cwV 1 hts gX8_party_X0_isSeated rfl rfl rfl (by decide +kernel) ⟨Nat.le_of_ble_eq_true rfl, Nat.le_of_ble_eq_true rfl⟩) ⟨PRo.blind, va_recv hK.1 hPc (ci := 0) (q0 := 0) rfl rfl, PRo.at hK hPc⟩ rfl rfl hl.1 rfl (lv_room (Nat.le_of_ble_eq_true rfl)) dX8_party_18 ⟨Nat.zero_le _, Nat.zero_le _⟩) ?_
    refine lv_istore_n (lv' := [(3, .int q3), (0, .ref a_o), (1, .int x1), (2, .int x2)]) hx hb dX8_party_21 rfl hl (by decide) rfl (fun ls hl => ?_)
    refine lv_iload_n hx hb dX8_party_22 rfl (lv_at hl 3 rfl) ?_
    by_cases hs5 : x2 = (0 : Int32)
    · have hf := pf_t hs5 hf
      refine lv_tableIn (tgt := 60) (off := 37) hx hb dX8_party_23 (by rw [hs5]; decide) (by rw [hs5]; decide) (by rw [hs5]; rfl) (by decide) ?_
      refine lv_aload_n hx hb dX8_party_60 rfl (lv_at hl 1 rfl) ?_
      refine va_get (D := D) (ci := 8) (v := .ref a_o_now) (C := RX8) (T := TX8) (N := 11) hx hb hts iX8_party_X8 hown hK.1 hP 0 rfl rfl 3 (by decide) (hts (.fieldLink RX8 29 "LoneSeats" "now" "LLoneSeats$Bookings;") (by decide +kernel)) (fun _ h9 => h9) rfl dX8_party_61 ?_
      refine lv_iload_n hx hb dX8_party_64 rfl (lv_at hl 2 rfl) ?_
      obtain ⟨q6, hq7, hf⟩ := pf_b hf
      have hPc := hP.sub (ws' := (WX0_sizeOf cI cJ cZ cB a_o_now a_o_now_prices a_o_now_free a_o_now_sizes a_o_now_limits a_o_now_places a_o_now_paid a_o_now_queue v_o_now_asked v_o_now_waiting v_o_now_fee v_o_now_takings d_o_now_sizes)) [1, 2] rfl
      refine cl_roi (va_runV (As := [.int x1]) (rest := []) ⟨hx, hb, hml, hown, hts⟩ (kX0_sizeOf l D cI cJ cZ cB a_o_now a_o_now_prices a_o_now_free a_o_now_sizes a_o_now_limits a_o_now_places a_o_now_paid a_o_now_queue v_o_now_asked v_o_now_waiting v_o_now_fee v_o_now_takings d_o_now_sizes x1 q6 hq7) (cwV 1 hts gX8_party_X0_sizeOf rfl rfl rfl (by decide +kernel) ⟨Nat.le_of_ble_eq_true rfl, Nat.le_of_ble_eq_true rfl⟩) ⟨PRo.blind, va_recv hK.1 hPc (ci := 0) (q0 := 0) rfl rfl, PRo.at hK hPc⟩ rfl rfl hl.1 rfl (lv_room (Nat.le_of_ble_eq_true rfl)) dX8_party_65 ⟨Nat.zero_le _, Nat.zero_le _⟩) ?_
      cases hf
      exact W.iret (v := q6) hx hb hr (fun t ht hW => ⟨rfl, ht⟩) (fun _ h => absurd h List.not_mem_nil) dX8_party_68
    · have hf := pf_f hs5 hf
      by_cases hs8 : x2 = (1 : Int32)
      · have hf := pf_t hs8 hf
        refine lv_tableIn (tgt := 69) (off := 46) hx hb dX8_party_23 (by rw [hs8]; decide) (by rw [hs8]; decide) (by rw [hs8]; rfl) (by decide) ?_
        refine lv_aload_n hx hb dX8_party_69 rfl (lv_at hl 1 rfl) ?_
        refine va_get (D := D) (ci := 8) (v := .ref a_o_now) (C := RX8) (T := TX8) (N := 11) hx hb hts iX8_party_X8 hown hK.1 hP 0 rfl rfl 3 (by decide) (hts (.fieldLink RX8 29 "LoneSeats" "now" "LLoneSeats$Bookings;") (by decide +kernel)) (fun _ h9 => h9) rfl dX8_party_70 ?_
        refine lv_iload_n hx hb dX8_party_73 rfl (lv_at hl 2 rfl) ?_
        obtain ⟨q9, hq10, hf⟩ := pf_b hf
        have hPc := hP.sub (ws' := (WX0_limitOf cI cJ cZ cB a_o_now a_o_now_prices a_o_now_free a_o_now_sizes a_o_now_limits a_o_now_places a_o_now_paid a_o_now_queue v_o_now_asked v_o_now_waiting v_o_now_fee v_o_now_takings d_o_now_limits)) [1, 3] rfl
        refine cl_roi (va_runV (As := [.int x1]) (rest := []) ⟨hx, hb, hml, hown, hts⟩ (kX0_limitOf l D cI cJ cZ cB a_o_now a_o_now_prices a_o_now_free a_o_now_sizes a_o_now_limits a_o_now_places a_o_now_paid a_o_now_queue v_o_now_asked v_o_now_waiting v_o_now_fee v_o_now_takings d_o_now_limits x1 q9 hq10) (cwV 1 hts gX8_party_X0_limitOf rfl rfl rfl (by decide +kernel) ⟨Nat.le_of_ble_eq_true rfl, Nat.le_of_ble_eq_true rfl⟩) ⟨PRo.blind, va_recv hK.1 hPc (ci := 0) (q0 := 0) rfl rfl, PRo.at hK hPc⟩ rfl rfl hl.1 rfl (lv_room (Nat.le_of_ble_eq_true rfl)) dX8_party_74 ⟨Nat.zero_le _, Nat.zero_le _⟩) ?_
        cases hf
        exact W.iret (v := q9) hx hb hr (fun t ht hW => ⟨rfl, ht⟩) (fun _ h => absurd h List.not_mem_nil) dX8_party_77
      · have hf := pf_f hs8 hf
        by_cases hs11 : x2 = (2 : Int32)
        · have hf := pf_t hs11 hf
          refine lv_tableIn (tgt := 78) (off := 55) hx hb dX8_party_23 (by rw [hs11]; decide) (by rw [hs11]; decide) (by rw [hs11]; rfl) (by decide) ?_
          refine lv_iload_n hx hb dX8_party_78 rfl (lv_at hl 0 rfl) ?_
          refine lv_if_eq (tgt := 86) hx hb dX8_party_79 (by decide) (fun hc => ?_) (fun hc => ?_)
          · have hf := pf_t hc hf
            refine lv_aload_n hx hb dX8_party_86 rfl (lv_at hl 1 rfl) ?_
            refine va_get (D := D) (ci := 8) (v := .ref a_o_now) (C := RX8) (T := TX8) (N := 11) hx hb hts iX8_party_X8 hown hK.1 hP 0 rfl rfl 3 (by decide) (hts (.fieldLink RX8 29 "LoneSeats" "now" "LLoneSeats$Bookings;") (by decide +kernel)) (fun _ h9 => h9) rfl dX8_party_87 ?_
            refine lv_iload_n hx hb dX8_party_90 rfl (lv_at hl 2 rfl) ?_
            obtain ⟨q12, hq13, hf⟩ := pf_b hf
            have hPc := hP.sub (ws' := (WX0_isWaiting cI cJ cZ cB a_o_now a_o_now_prices a_o_now_free a_o_now_sizes a_o_now_limits a_o_now_places a_o_now_paid a_o_now_queue v_o_now_asked v_o_now_waiting v_o_now_fee v_o_now_takings d_o_now_queue)) [1, 6] rfl
            refine cl_roi (va_runV (As := [.int x1]) (rest := []) ⟨hx, hb, hml, hown, hts⟩ (kX0_isWaiting l D cI cJ cZ cB a_o_now a_o_now_prices a_o_now_free a_o_now_sizes a_o_now_limits a_o_now_places a_o_now_paid a_o_now_queue v_o_now_asked v_o_now_waiting v_o_now_fee v_o_now_takings d_o_now_queue x1 q12 hq13) (cwV 1 hts gX8_party_X0_isWaiting rfl rfl rfl (by decide +kernel) ⟨Nat.le_of_ble_eq_true rfl, Nat.le_of_ble_eq_true rfl⟩) ⟨PRo.blind, va_recv hK.1 hPc (ci := 0) (q0 := 0) rfl rfl, PRo.at hK hPc⟩ rfl rfl hl.1 rfl (lv_room (Nat.le_of_ble_eq_true rfl)) dX8_party_91 ⟨Nat.zero_le _, Nat.zero_le _⟩) ?_
            refine lv_if_eq (tgt := 101) hx hb dX8_party_94 (by decide) (fun hc => ?_) (fun hc => ?_)
            · have hf := pf_t hc hf
              refine lv_iconst (v := (0 : Int32)) hx hb dX8_party_101 (by decide) ?_
              cases hf
              exact W.iret (v := (0 : Int32)) hx hb hr (fun t ht hW => ⟨rfl, ht⟩) (fun _ h => absurd h List.not_mem_nil) dX8_party_102
            · have hf := pf_f hc hf
              refine lv_iconst (v := (2 : Int32)) hx hb dX8_party_97 (by decide) ?_
              refine lv_goto (tgt := 102) hx hb dX8_party_98 (by decide) ?_
              cases hf
              exact W.iret (v := (2 : Int32)) hx hb hr (fun t ht hW => ⟨rfl, ht⟩) (fun _ h => absurd h List.not_mem_nil) dX8_party_102
          · have hf := pf_f hc hf
            refine lv_iconst (v := (1 : Int32)) hx hb dX8_party_82 (by decide) ?_
            refine lv_goto (tgt := 102) hx hb dX8_party_83 (by decide) ?_
            cases hf
            exact W.iret (v := (1 : Int32)) hx hb hr (fun t ht hW => ⟨rfl, ht⟩) (fun _ h => absurd h List.not_mem_nil) dX8_party_102
        · have hf := pf_f hs11 hf
          by_cases hs14 : x2 = (3 : Int32)
          · have hf := pf_t hs14 hf
            refine lv_tableIn (tgt := 103) (off := 80) hx hb dX8_party_23 (by rw [hs14]; decide) (by rw [hs14]; decide) (by rw [hs14]; rfl) (by decide) ?_
            refine lv_iload_n hx hb dX8_party_103 rfl (lv_at hl 0 rfl) ?_
            refine lv_if_eq (tgt := 121) hx hb dX8_party_104 (by decide) (fun hc => ?_) (fun hc => ?_)
            · have hf := pf_t hc hf
              refine lv_bipush (v := (-9 : Int32)) hx hb dX8_party_121 (by decide) ?_
              cases hf
              exact W.iret (v := (-9 : Int32)) hx hb hr (fun t ht hW => ⟨rfl, ht⟩) (fun _ h => absurd h List.not_mem_nil) dX8_party_123
            · have hf := pf_f hc hf
              refine lv_aload_n hx hb dX8_party_107 rfl (lv_at hl 1 rfl) ?_
              refine va_get (D := D) (ci := 8) (v := .ref a_o_now) (C := RX8) (T := TX8) (N := 11) hx hb hts iX8_party_X8 hown hK.1 hP 0 rfl rfl 3 (by decide) (hts (.fieldLink RX8 29 "LoneSeats" "now" "LLoneSeats$Bookings;") (by decide +kernel)) (fun _ h9 => h9) rfl dX8_party_108 ?_
              refine lv_iload_n hx hb dX8_party_111 rfl (lv_at hl 2 rfl) ?_
              obtain ⟨q15, hq16, hf⟩ := pf_b hf
              have hPc := hP.sub (ws' := (WX0_placeOf cI cJ cZ cB a_o_now a_o_now_prices a_o_now_free a_o_now_sizes a_o_now_limits a_o_now_places a_o_now_paid a_o_now_queue v_o_now_asked v_o_now_waiting v_o_now_fee v_o_now_takings d_o_now_places)) [1, 4] rfl
              refine cl_roi (va_runV (As := [.int x1]) (rest := []) ⟨hx, hb, hml, hown, hts⟩ (kX0_placeOf l D cI cJ cZ cB a_o_now a_o_now_prices a_o_now_free a_o_now_sizes a_o_now_limits a_o_now_places a_o_now_paid a_o_now_queue v_o_now_asked v_o_now_waiting v_o_now_fee v_o_now_takings d_o_now_places x1 q15 hq16) (cwV 1 hts gX8_party_X0_placeOf rfl rfl rfl (by decide +kernel) ⟨Nat.le_of_ble_eq_true rfl, Nat.le_of_ble_eq_true rfl⟩) ⟨PRo.blind, va_recv hK.1 hPc (ci := 0) (q0 := 0) rfl rfl, PRo.at hK hPc⟩ rfl rfl hl.1 rfl (lv_room (Nat.le_of_ble_eq_true rfl)) dX8_party_112 ⟨Nat.zero_le _, Nat.zero_le _⟩) ?_
              obtain ⟨q17, hq18, hf⟩ := pf_b hf
              have hPc := hP.sub (ws' := ([] : va_W)) [] rfl
              refine cl_roi (va_runS (As := [.int q15]) (rest := []) ⟨hx, hb, hml, hown, hts⟩ (kX8_rowOf l D cI cJ cZ cB q15 q17 hq18) (va_cwS 1 hts gX8_party_X8_rowOf rfl rfl rfl (by decide +kernel) ⟨Nat.le_of_ble_eq_true rfl, Nat.le_of_ble_eq_true rfl⟩) ⟨PRo.blind, PRo.at hK hPc⟩ rfl rfl hl.1 rfl (lv_room (Nat.le_of_ble_eq_true rfl)) dX8_party_115 ⟨Nat.zero_le _, Nat.zero_le _⟩) ?_
              refine lv_goto (tgt := 123) hx hb dX8_party_118 (by decide) ?_
              cases hf
              exact W.iret (v := q17) hx hb hr (fun t ht hW => ⟨rfl, ht⟩) (fun _ h => absurd h List.not_mem_nil) dX8_party_123
          · have hf := pf_f hs14 hf
            by_cases hs19 : x2 = (4 : Int32)
            · have hf := pf_t hs19 hf
              refine lv_tableIn (tgt := 124) (off := 101) hx hb dX8_party_23 (by rw [hs19]; decide) (by rw [hs19]; decide) (by rw [hs19]; rfl) (by decide) ?_
              refine lv_iload_n hx hb dX8_party_124 rfl (lv_at hl 0 rfl) ?_
              refine lv_if_eq (tgt := 142) hx hb dX8_party_125 (by decide) (fun hc => ?_) (fun hc => ?_)
              · have hf := pf_t hc hf
                refine lv_bipush (v := (-9 : Int32)) hx hb dX8_party_142 (by decide) ?_
                cases hf
                exact W.iret (v := (-9 : Int32)) hx hb hr (fun t ht hW => ⟨rfl, ht⟩) (fun _ h => absurd h List.not_mem_nil) dX8_party_144
              · have hf := pf_f hc hf
                refine lv_aload_n hx hb dX8_party_128 rfl (lv_at hl 1 rfl) ?_
                refine va_get (D := D) (ci := 8) (v := .ref a_o_now) (C := RX8) (T := TX8) (N := 11) hx hb hts iX8_party_X8 hown hK.1 hP 0 rfl rfl 3 (by decide) (hts (.fieldLink RX8 29 "LoneSeats" "now" "LLoneSeats$Bookings;") (by decide +kernel)) (fun _ h9 => h9) rfl dX8_party_129 ?_
                refine lv_iload_n hx hb dX8_party_132 rfl (lv_at hl 2 rfl) ?_
                obtain ⟨q20, hq21, hf⟩ := pf_b hf
                have hPc := hP.sub (ws' := (WX0_placeOf cI cJ cZ cB a_o_now a_o_now_prices a_o_now_free a_o_now_sizes a_o_now_limits a_o_now_places a_o_now_paid a_o_now_queue v_o_now_asked v_o_now_waiting v_o_now_fee v_o_now_takings d_o_now_places)) [1, 4] rfl
                refine cl_roi (va_runV (As := [.int x1]) (rest := []) ⟨hx, hb, hml, hown, hts⟩ (kX0_placeOf l D cI cJ cZ cB a_o_now a_o_now_prices a_o_now_free a_o_now_sizes a_o_now_limits a_o_now_places a_o_now_paid a_o_now_queue v_o_now_asked v_o_now_waiting v_o_now_fee v_o_now_takings d_o_now_places x1 q20 hq21) (cwV 1 hts gX8_party_X0_placeOf rfl rfl rfl (by decide +kernel) ⟨Nat.le_of_ble_eq_true rfl, Nat.le_of_ble_eq_true rfl⟩) ⟨PRo.blind, va_recv hK.1 hPc (ci := 0) (q0 := 0) rfl rfl, PRo.at hK hPc⟩ rfl rfl hl.1 rfl (lv_room (Nat.le_of_ble_eq_true rfl)) dX8_party_133 ⟨Nat.zero_le _, Nat.zero_le _⟩) ?_
                obtain ⟨q22, hq23, hf⟩ := pf_b hf
                have hPc := hP.sub (ws' := ([] : va_W)) [] rfl
                refine cl_roi (va_runS (As := [.int q20]) (rest := []) ⟨hx, hb, hml, hown, hts⟩ (kX8_firstOf l D cI cJ cZ cB q20 q22 hq23) (va_cwS 1 hts gX8_party_X8_firstOf rfl rfl rfl (by decide +kernel) ⟨Nat.le_of_ble_eq_true rfl, Nat.le_of_ble_eq_true rfl⟩) ⟨PRo.blind, PRo.at hK hPc⟩ rfl rfl hl.1 rfl (lv_room (Nat.le_of_ble_eq_true rfl)) dX8_party_136 ⟨Nat.zero_le _, Nat.zero_le _⟩) ?_
                refine lv_goto (tgt := 144) hx hb dX8_party_139 (by decide) ?_
                cases hf
                exact W.iret (v := q22) hx hb hr (fun t ht hW => ⟨rfl, ht⟩) (fun _ h => absurd h List.not_mem_nil) dX8_party_144
            · have hf := pf_f hs19 hf
              by_cases hs24 : x2 = (5 : Int32)
              · have hf := pf_t hs24 hf
                refine lv_tableIn (tgt := 145) (off := 122) hx hb dX8_party_23 (by rw [hs24]; decide) (by rw [hs24]; decide) (by rw [hs24]; rfl) (by decide) ?_
                refine lv_aload_n hx hb dX8_party_145 rfl (lv_at hl 1 rfl) ?_
                refine va_get (D := D) (ci := 8) (v := .ref a_o_now) (C := RX8) (T := TX8) (N := 11) hx hb hts iX8_party_X8 hown hK.1 hP 0 rfl rfl 3 (by decide) (hts (.fieldLink RX8 29 "LoneSeats" "now" "LLoneSeats$Bookings;") (by decide +kernel)) (fun _ h9 => h9) rfl dX8_party_146 ?_
                refine lv_iload_n hx hb dX8_party_149 rfl (lv_at hl 2 rfl) ?_
                obtain ⟨q25, hq26, hf⟩ := pf_b hf
                have hPc := hP.sub (ws' := (WX0_paidBy cI cJ cZ cB a_o_now a_o_now_prices a_o_now_free a_o_now_sizes a_o_now_limits a_o_now_places a_o_now_paid a_o_now_queue v_o_now_asked v_o_now_waiting v_o_now_fee v_o_now_takings d_o_now_paid)) [1, 5] rfl
                refine cl_roi (va_runV (As := [.int x1]) (rest := []) ⟨hx, hb, hml, hown, hts⟩ (kX0_paidBy l D cI cJ cZ cB a_o_now a_o_now_prices a_o_now_free a_o_now_sizes a_o_now_limits a_o_now_places a_o_now_paid a_o_now_queue v_o_now_asked v_o_now_waiting v_o_now_fee v_o_now_takings d_o_now_paid x1 q25 hq26) (cwV 1 hts gX8_party_X0_paidBy rfl rfl rfl (by decide +kernel) ⟨Nat.le_of_ble_eq_true rfl, Nat.le_of_ble_eq_true rfl⟩) ⟨PRo.blind, va_recv hK.1 hPc (ci := 0) (q0 := 0) rfl rfl, PRo.at hK hPc⟩ rfl rfl hl.1 rfl (lv_room (Nat.le_of_ble_eq_true rfl)) dX8_party_150 ⟨Nat.zero_le _, Nat.zero_le _⟩) ?_
                cases hf
                exact W.iret (v := q25) hx hb hr (fun t ht hW => ⟨rfl, ht⟩) (fun _ h => absurd h List.not_mem_nil) dX8_party_153
              · have hf := pf_f hs24 hf
                refine lv_tableOut (tgt := 154) hx hb dX8_party_23 (by have := lv_neT hs5 (show (0 : Int32).toInt = 0 by decide); have := lv_neT hs8 (show (1 : Int32).toInt = 1 by decide); have := lv_neT hs11 (show (2 : Int32).toInt = 2 by decide); have := lv_neT hs14 (show (3 : Int32).toInt = 3 by decide); have := lv_neT hs19 (show (4 : Int32).toInt = 4 by decide); have := lv_neT hs24 (show (5 : Int32).toInt = 5 by decide); omega) (by decide) ?_
                refine lv_bipush (v := (-2 : Int32)) hx hb dX8_party_154 (by decide) ?_
                cases hf
                exact W.iret (v := (-2 : Int32)) hx hb hr (fun t ht hW => ⟨rfl, ht⟩) (fun _ h => absurd h List.not_mem_nil) dX8_party_156
  · have hf := pf_t hc hf
    refine lv_iconst (v := (-1 : Int32)) hx hb dX8_party_11 (by decide) ?_
    cases hf
    exact W.iret (v := (-1 : Int32)) hx hb hr (fun t ht hW => ⟨rfl, ht⟩) (fun _ h => absurd h List.not_mem_nil) dX8_party_12
def fX8_isSize (x0 : Int32) : Option (Int32) := (if x0 < (1 : Int32) then some (0 : Int32) else (if (6 : Int32) < x0 then some (0 : Int32) else some (1 : Int32)))
set_option maxRecDepth 100000 in
set_option maxHeartbeats 4000000 in
theorem kX8_isSize (l : Launch) (D : va_G) (cI cJ cZ cB : ClassId) (x0 : Int32) (res : Int32) (hf : fX8_isSize x0 = some res) : Ro l yX8_isSize wsX8_isSize ({ frames := 0, cells := 0, slots := 0, locals := 0 } : Room) D (tyL cI cJ cZ cB) [.int x0] ([] : va_W) (some (.int res)) := by
  refine Ro.of (cc := cX8_isSize) (maxL := 1) (ret := (some .boolean)) (own := RX8) (by decide) rfl rfl (Nat.le_of_ble_eq_true rfl) ?_
  intro p e s m below meth c ls C hK hP hl
  obtain ⟨hx, hb, hr, hml, hts, hown, hlk⟩ := id C
  have hl : lv_has ls 1 [(0, .int x0)] := hl
  unfold fX8_isSize at hf
  refine lv_iload_n hx hb dX8_isSize_0 rfl (lv_at hl 0 rfl) ?_
  refine lv_iconst (v := (1 : Int32)) hx hb dX8_isSize_1 (by decide) ?_
  refine lv_icmp_lt (tgt := 15) hx hb dX8_isSize_2 (by decide) (fun hc => ?_) (fun hc => ?_)
  · have hf := pf_t hc hf
    refine lv_iconst (v := (0 : Int32)) hx hb dX8_isSize_15 (by decide) ?_
    cases hf
    exact W.zret (v := (0 : Int32)) hx hb hr (nar_b (by decide)) (fun t ht hW => ⟨rfl, ht⟩) (fun _ h => absurd h List.not_mem_nil) dX8_isSize_16
  · have hf := pf_f hc hf
    refine lv_iload_n hx hb dX8_isSize_5 rfl (lv_at hl 0 rfl) ?_
    refine lv_bipush (v := (6 : Int32)) hx hb dX8_isSize_6 (by decide) ?_
    refine lv_icmp_gt (tgt := 15) hx hb dX8_isSize_8 (by decide) (fun hc => ?_) (fun hc => ?_)
    · have hf := pf_t hc hf
      refine lv_iconst (v := (0 : Int32)) hx hb dX8_isSize_15 (by decide) ?_
      cases hf
      exact W.zret (v := (0 : Int32)) hx hb hr (nar_b (by decide)) (fun t ht hW => ⟨rfl, ht⟩) (fun _ h => absurd h List.not_mem_nil) dX8_isSize_16
    · have hf := pf_f hc hf
      refine lv_iconst (v := (1 : Int32)) hx hb dX8_isSize_11 (by decide) ?_
      refine lv_goto (tgt := 16) hx hb dX8_isSize_12 (by decide) ?_
      cases hf
      exact W.zret (v := (1 : Int32)) hx hb hr (nar_b (by decide)) (fun t ht hW => ⟨rfl, ht⟩) (fun _ h => absurd h List.not_mem_nil) dX8_isSize_16
def fX8_isPrice (x0 : Int32) : Option (Int32) := (if x0 < (1 : Int32) then some (0 : Int32) else (if (9 : Int32) < x0 then some (0 : Int32) else some (1 : Int32)))
set_option maxRecDepth 100000 in
set_option maxHeartbeats 4000000 in
theorem kX8_isPrice (l : Launch) (D : va_G) (cI cJ cZ cB : ClassId) (x0 : Int32) (res : Int32) (hf : fX8_isPrice x0 = some res) : Ro l yX8_isPrice wsX8_isPrice ({ frames := 0, cells := 0, slots := 0, locals := 0 } : Room) D (tyL cI cJ cZ cB) [.int x0] ([] : va_W) (some (.int res)) := by
  refine Ro.of (cc := cX8_isPrice) (maxL := 1) (ret := (some .boolean)) (own := RX8) (by decide) rfl rfl (Nat.le_of_ble_eq_true rfl) ?_
  intro p e s m below meth c ls C hK hP hl
  obtain ⟨hx, hb, hr, hml, hts, hown, hlk⟩ := id C
  have hl : lv_has ls 1 [(0, .int x0)] := hl
  unfold fX8_isPrice at hf
  refine lv_iload_n hx hb dX8_isPrice_0 rfl (lv_at hl 0 rfl) ?_
  refine lv_iconst (v := (1 : Int32)) hx hb dX8_isPrice_1 (by decide) ?_
  refine lv_icmp_lt (tgt := 15) hx hb dX8_isPrice_2 (by decide) (fun hc => ?_) (fun hc => ?_)
  · have hf := pf_t hc hf
    refine lv_iconst (v := (0 : Int32)) hx hb dX8_isPrice_15 (by decide) ?_
    cases hf
    exact W.zret (v := (0 : Int32)) hx hb hr (nar_b (by decide)) (fun t ht hW => ⟨rfl, ht⟩) (fun _ h => absurd h List.not_mem_nil) dX8_isPrice_16
  · have hf := pf_f hc hf
    refine lv_iload_n hx hb dX8_isPrice_5 rfl (lv_at hl 0 rfl) ?_
    refine lv_bipush (v := (9 : Int32)) hx hb dX8_isPrice_6 (by decide) ?_
    refine lv_icmp_gt (tgt := 15) hx hb dX8_isPrice_8 (by decide) (fun hc => ?_) (fun hc => ?_)
    · have hf := pf_t hc hf
      refine lv_iconst (v := (0 : Int32)) hx hb dX8_isPrice_15 (by decide) ?_
      cases hf
      exact W.zret (v := (0 : Int32)) hx hb hr (nar_b (by decide)) (fun t ht hW => ⟨rfl, ht⟩) (fun _ h => absurd h List.not_mem_nil) dX8_isPrice_16
    · have hf := pf_f hc hf
      refine lv_iconst (v := (1 : Int32)) hx hb dX8_isPrice_11 (by decide) ?_
      refine lv_goto (tgt := 16) hx hb dX8_isPrice_12 (by decide) ?_
      cases hf
      exact W.zret (v := (1 : Int32)) hx hb hr (nar_b (by decide)) (fun t ht hW => ⟨rfl, ht⟩) (fun _ h => absurd h List.not_mem_nil) dX8_isPrice_16
abbrev WX8_best (cI cJ cZ cB : ClassId) (a_o : Nat) (a_o_text : Nat) (a_o_sketch : Nat) (a_o_plan : Nat) (a_o_now : Nat) (a_o_copy : Nat) (a_o_past : Nat) (a_o_slots : Nat) (a_o_sights : Nat) (a_o_finder : Nat) (a_o_odds : Nat) (a_o_plan_prices : Nat) (a_o_plan_seats : Nat) (a_o_plan_joined : Nat) (a_o_plan_views : Nat) (a_o_now_prices : Nat) (a_o_now_free : Nat) (a_o_now_sizes : Nat) (a_o_now_limits : Nat) (a_o_now_places : Nat) (a_o_now_paid : Nat) (a_o_now_queue : Nat) (v_o_seed : Int64) (v_o_plan_rows : Int32) (v_o_plan_awaited : Int32) (d_o_plan_seats : (Nat → Int32)) (d_o_plan_joined : (Nat → Int32)) (d_o_plan_views : (Nat → Int32)) (v_o_now_asked : Int32) (v_o_now_waiting : Int32) (v_o_now_fee : Int32) (v_o_now_takings : Int32) (d_o_now_prices : (Nat → Int32)) (d_o_now_free : (Nat → Int32)) (v_o_finder_places : Int32) (v_o_finder_place : Int32) (v_o_finder_quality : Int32) (v_o_finder_price : Int32) : va_W := [(a_o, .inr (8, [.ref a_o_text, .ref a_o_sketch, .ref a_o_plan, .ref a_o_now, .ref a_o_copy, .ref a_o_past, .ref a_o_slots, .ref a_o_sights, .ref a_o_finder, .ref a_o_odds, .long v_o_seed])), (a_o_plan, .inr (4, [.ref a_o_plan_prices, .ref a_o_plan_seats, .ref a_o_plan_joined, .ref a_o_plan_views, .int v_o_plan_rows, .int v_o_plan_awaited])), (a_o_plan_seats, .inl (cI, (4, .inl d_o_plan_seats))), (a_o_plan_joined, .inl (cI, (4, .inl d_o_plan_joined))), (a_o_plan_views, .inl (cI, (36, .inl d_o_plan_views))), (a_o_now, .inr (0, [.ref a_o_now_prices, .ref a_o_now_free, .ref a_o_now_sizes, .ref a_o_now_limits, .ref a_o_now_places, .ref a_o_now_paid, .ref a_o_now_queue, .int v_o_now_asked, .int v_o_now_waiting, .int v_o_now_fee, .int v_o_now_takings])), (a_o_now_prices, .inl (cI, (4, .inl d_o_now_prices))), (a_o_now_free, .inl (cI, (4, .inl d_o_now_free))), (a_o_finder, .inr (1, [.int v_o_finder_places, .int v_o_finder_place, .int v_o_finder_quality, .int v_o_finder_price]))]
set_option maxRecDepth 20000 in
theorem iX8_best_X8 : ∀ w ∈ wsX80, w ∈ wsX8_best := by decide +kernel
def fX8_best (v_o_plan_rows : Int32) (d_o_plan_seats : (Nat → Int32)) (d_o_plan_joined : (Nat → Int32)) (d_o_plan_views : (Nat → Int32)) (d_o_now_prices : (Nat → Int32)) (d_o_now_free : (Nat → Int32)) (v_o_finder_places : Int32) (v_o_finder_place : Int32) (v_o_finder_quality : Int32) (v_o_finder_price : Int32) (x1 : Int32) (x2 : Int32) (x3 : Int32) : Option (Int32 × Int32 × Int32 × Int32 × Int32) := ((fX8_isSize x1).bind fun q1 => (if q1 = 0 then some ((-2 : Int32), v_o_finder_places, v_o_finder_place, v_o_finder_quality, v_o_finder_price) else ((fX8_isPrice x2).bind fun q3 => (if q3 = 0 then some ((-2 : Int32), v_o_finder_places, v_o_finder_place, v_o_finder_quality, v_o_finder_price) else (if x3 < 0 then some ((-2 : Int32), v_o_finder_places, v_o_finder_place, v_o_finder_quality, v_o_finder_price) else (if x3 ≤ (2 : Int32) then ((fX1_look v_o_finder_places v_o_finder_place v_o_finder_quality v_o_finder_price v_o_plan_rows d_o_plan_seats d_o_plan_joined d_o_plan_views d_o_now_prices d_o_now_free x1 x2 (0 : Int32) (15 : Int32)).bind fun q5 => (if x3 = (2 : Int32) then ((fX1_places q5.2.1).bind fun q9 => some (q9, q5.2.1, q5.2.2.1, q5.2.2.2.1, q5.2.2.2.2)) else (if q5.1 = (-9 : Int32) then some ((-9 : Int32), q5.2.1, q5.2.2.1, q5.2.2.2.1, q5.2.2.2.2) else (if x3 = 0 then some (q5.1, q5.2.1, q5.2.2.1, q5.2.2.2.1, q5.2.2.2.2) else ((fX1_quality q5.2.2.2.1).bind fun q7 => some (q7, q5.2.1, q5.2.2.1, q5.2.2.2.1, q5.2.2.2.2)))))) else some ((-2 : Int32), v_o_finder_places, v_o_finder_place, v_o_finder_quality, v_o_finder_price)))))))
set_option maxRecDepth 100000 in
set_option maxHeartbeats 4000000 in
theorem kX8_best (l : Launch) (D : va_G) (cI cJ cZ cB : ClassId) (a_o : Nat) (a_o_text : Nat) (a_o_sketch : Nat) (a_o_plan : Nat) (a_o_now : Nat) (a_o_copy : Nat) (a_o_past : Nat) (a_o_slots : Nat) (a_o_sights : Nat) (a_o_finder : Nat) (a_o_odds : Nat) (a_o_plan_prices : Nat) (a_o_plan_seats : Nat) (a_o_plan_joined : Nat) (a_o_plan_views : Nat) (a_o_now_prices : Nat) (a_o_now_free : Nat) (a_o_now_sizes : Nat) (a_o_now_limits : Nat) (a_o_now_places : Nat) (a_o_now_paid : Nat) (a_o_now_queue : Nat) (v_o_seed : Int64) (v_o_plan_rows : Int32) (v_o_plan_awaited : Int32) (d_o_plan_seats : (Nat → Int32)) (d_o_plan_joined : (Nat → Int32)) (d_o_plan_views : (Nat → Int32)) (v_o_now_asked : Int32) (v_o_now_waiting : Int32) (v_o_now_fee : Int32) (v_o_now_takings : Int32) (d_o_now_prices : (Nat → Int32)) (d_o_now_free : (Nat → Int32)) (v_o_finder_places : Int32) (v_o_finder_place : Int32) (v_o_finder_quality : Int32) (v_o_finder_price : Int32) (x1 : Int32) (x2 : Int32) (x3 : Int32) (res : Int32 × Int32 × Int32 × Int32 × Int32) (hf : fX8_best v_o_plan_rows d_o_plan_seats d_o_plan_joined d_o_plan_views d_o_now_prices d_o_now_free v_o_finder_places v_o_finder_place v_o_finder_quality v_o_finder_price x1 x2 x3 = some res) : Rw l yX8_best wsX8_best ({ frames := 4, cells := 0, slots := 0, locals := 102 } : Room) D (tyL cI cJ cZ cB) [.ref a_o, .int x1, .int x2, .int x3] (WX8_best cI cJ cZ cB a_o a_o_text a_o_sketch a_o_plan a_o_now a_o_copy a_o_past a_o_slots a_o_sights a_o_finder a_o_odds a_o_plan_prices a_o_plan_seats a_o_plan_joined a_o_plan_views a_o_now_prices a_o_now_free a_o_now_sizes a_o_now_limits a_o_now_places a_o_now_paid a_o_now_queue v_o_seed v_o_plan_rows v_o_plan_awaited d_o_plan_seats d_o_plan_joined d_o_plan_views v_o_now_asked v_o_now_waiting v_o_now_fee v_o_now_takings d_o_now_prices d_o_now_free v_o_finder_places v_o_finder_place v_o_finder_quality v_o_finder_price) (some (.int res.1)) (WX8_best cI cJ cZ cB a_o a_o_text a_o_sketch a_o_plan a_o_now a_o_copy a_o_past a_o_slots a_o_sights a_o_finder a_o_odds a_o_plan_prices a_o_plan_seats a_o_plan_joined a_o_plan_views a_o_now_prices a_o_now_free a_o_now_sizes a_o_now_limits a_o_now_places a_o_now_paid a_o_now_queue v_o_seed v_o_plan_rows v_o_plan_awaited d_o_plan_seats d_o_plan_joined d_o_plan_views v_o_now_asked v_o_now_waiting v_o_now_fee v_o_now_takings d_o_now_prices d_o_now_free res.2.1 res.2.2.1 res.2.2.2.1 res.2.2.2.2) := by
  refine Rw.of (cc := cX8_best) (maxL := 5) (ret := (some .int)) (own := RX8) (by decide) rfl rfl (Nat.le_of_ble_eq_true rfl) ?_
  intro p e s m below meth c A ls C hK hA hP hD hS hl
  obtain ⟨hx, hb, hr, hml, hts, hown, hlk⟩ := id C
  have hl : lv_has ls 5 [(0, .ref a_o), (1, .int x1), (2, .int x2), (3, .int x3)] := hl
  unfold fX8_best at hf
  refine lv_iload_n hx hb dX8_best_0 rfl (lv_at hl 1 rfl) ?_
  obtain ⟨q1, hq2, hf⟩ := pf_b hf
  have hPc := hP.sub (ws' := ([] : va_W)) [] rfl
  refine cl_roi (va_runS (As := [.int x1]) (rest := []) ⟨hx, hb, hml, hown, hts⟩ (kX8_isSize l D cI cJ cZ cB x1 q1 hq2) (va_cwS 1 hts gX8_best_X8_isSize rfl rfl rfl (by decide +kernel) ⟨Nat.le_of_ble_eq_true rfl, Nat.le_of_ble_eq_true rfl⟩) ⟨PRo.blind, PRo.at hK hPc⟩ rfl rfl hl.1 rfl (lv_room (Nat.le_of_ble_eq_true rfl)) dX8_best_1 ⟨Nat.zero_le _, Nat.zero_le _⟩) ?_
  refine lv_if_eq (tgt := 23) hx hb dX8_best_4 (by decide) (fun hc => ?_) (fun hc => ?_)
  · have hf := pf_t hc hf
    refine lv_bipush (v := (-2 : Int32)) hx hb dX8_best_23 (by decide) ?_
    cases hf
    exact W.iret (v := (-2 : Int32)) hx hb hr (fun t ht hW => ⟨⟨rfl, by rw [ht]; exact hP, hD⟩, hS.F ht⟩) hS.2.2 dX8_best_25
  · have hf := pf_f hc hf
    refine lv_iload_n hx hb dX8_best_7 rfl (lv_at hl 2 rfl) ?_
    obtain ⟨q3, hq4, hf⟩ := pf_b hf
    have hPc := hP.sub (ws' := ([] : va_W)) [] rfl
    refine cl_roi (va_runS (As := [.int x2]) (rest := []) ⟨hx, hb, hml, hown, hts⟩ (kX8_isPrice l D cI cJ cZ cB x2 q3 hq4) (va_cwS 1 hts gX8_best_X8_isPrice rfl rfl rfl (by decide +kernel) ⟨Nat.le_of_ble_eq_true rfl, Nat.le_of_ble_eq_true rfl⟩) ⟨PRo.blind, PRo.at hK hPc⟩ rfl rfl hl.1 rfl (lv_room (Nat.le_of_ble_eq_true rfl)) dX8_best_8 ⟨Nat.zero_le _, Nat.zero_le _⟩) ?_
    refine lv_if_eq (tgt := 23) hx hb dX8_best_11 (by decide) (fun hc => ?_) (fun hc => ?_)
    · have hf := pf_t hc hf
      refine lv_bipush (v := (-2 : Int32)) hx hb dX8_best_23 (by decide) ?_
      cases hf
      exact W.iret (v := (-2 : Int32)) hx hb hr (fun t ht hW => ⟨⟨rfl, by rw [ht]; exact hP, hD⟩, hS.F ht⟩) hS.2.2 dX8_best_25
    · have hf := pf_f hc hf
      refine lv_iload_n hx hb dX8_best_14 rfl (lv_at hl 3 rfl) ?_
      refine lv_if_lt (tgt := 23) hx hb dX8_best_15 (by decide) (fun hc => ?_) (fun hc => ?_)
      · have hf := pf_t hc hf
        refine lv_bipush (v := (-2 : Int32)) hx hb dX8_best_23 (by decide) ?_
        cases hf
        exact W.iret (v := (-2 : Int32)) hx hb hr (fun t ht hW => ⟨⟨rfl, by rw [ht]; exact hP, hD⟩, hS.F ht⟩) hS.2.2 dX8_best_25
      · have hf := pf_f hc hf
        refine lv_iload_n hx hb dX8_best_18 rfl (lv_at hl 3 rfl) ?_
        refine lv_iconst (v := (2 : Int32)) hx hb dX8_best_19 (by decide) ?_
        refine lv_icmp_le (tgt := 26) hx hb dX8_best_20 (by decide) (fun hc => ?_) (fun hc => ?_)
        · have hf := pf_t hc hf
          refine lv_aload_n hx hb dX8_best_26 rfl (lv_at hl 0 rfl) ?_
          refine va_get (D := D) (ci := 8) (v := .ref a_o_finder) (C := RX8) (T := TX8) (N := 11) hx hb hts iX8_best_X8 hown hK.1 hP 0 rfl rfl 8 (by decide) (hts (.fieldLink RX8 60 "LoneSeats" "finder" "LLoneSeats$Finder;") (by decide +kernel)) (fun _ h9 => h9) rfl dX8_best_27 ?_
          refine lv_aload_n hx hb dX8_best_30 rfl (lv_at hl 0 rfl) ?_
          refine va_get (D := D) (ci := 8) (v := .ref a_o_plan) (C := RX8) (T := TX8) (N := 11) hx hb hts iX8_best_X8 hown hK.1 hP 0 rfl rfl 2 (by decide) (hts (.fieldLink RX8 23 "LoneSeats" "plan" "LLoneSeats$Plan;") (by decide +kernel)) (fun _ h9 => h9) rfl dX8_best_31 ?_
          refine lv_aload_n hx hb dX8_best_34 rfl (lv_at hl 0 rfl) ?_
          refine va_get (D := D) (ci := 8) (v := .ref a_o_now) (C := RX8) (T := TX8) (N := 11) hx hb hts iX8_best_X8 hown hK.1 hP 0 rfl rfl 3 (by decide) (hts (.fieldLink RX8 29 "LoneSeats" "now" "LLoneSeats$Bookings;") (by decide +kernel)) (fun _ h9 => h9) rfl dX8_best_35 ?_
          refine lv_iload_n hx hb dX8_best_38 rfl (lv_at hl 1 rfl) ?_
          refine lv_iload_n hx hb dX8_best_39 rfl (lv_at hl 2 rfl) ?_
          refine lv_iconst (v := (0 : Int32)) hx hb dX8_best_40 (by decide) ?_
          refine lv_bipush (v := (15 : Int32)) hx hb dX8_best_41 (by decide) ?_
          obtain ⟨q5, hq6, hf⟩ := pf_b hf
          have hPc := hP.sub (ws' := (WX1_look cI cJ cZ cB a_o_finder a_o_plan a_o_plan_prices a_o_plan_seats a_o_plan_joined a_o_plan_views a_o_now a_o_now_prices a_o_now_free a_o_now_sizes a_o_now_limits a_o_now_places a_o_now_paid a_o_now_queue v_o_finder_places v_o_finder_place v_o_finder_quality v_o_finder_price v_o_plan_rows v_o_plan_awaited d_o_plan_seats d_o_plan_joined d_o_plan_views v_o_now_asked v_o_now_waiting v_o_now_fee v_o_now_takings d_o_now_prices d_o_now_free)) [8, 1, 2, 3, 4, 5, 6, 7] rfl
          have hDc := hD.sub (ws' := (WX1_look cI cJ cZ cB a_o_finder a_o_plan a_o_plan_prices a_o_plan_seats a_o_plan_joined a_o_plan_views a_o_now a_o_now_prices a_o_now_free a_o_now_sizes a_o_now_limits a_o_now_places a_o_now_paid a_o_now_queue v_o_finder_places v_o_finder_place v_o_finder_quality v_o_finder_price v_o_plan_rows v_o_plan_awaited d_o_plan_seats d_o_plan_joined d_o_plan_views v_o_now_asked v_o_now_waiting v_o_now_fee v_o_now_takings d_o_now_prices d_o_now_free)) [8, 1, 2, 3, 4, 5, 6, 7] (by decide) rfl
          refine cl_rwi (wr := [(a_o, .inr (8, [.ref a_o_text, .ref a_o_sketch, .ref a_o_plan, .ref a_o_now, .ref a_o_copy, .ref a_o_past, .ref a_o_slots, .ref a_o_sights, .ref a_o_finder, .ref a_o_odds, .long v_o_seed]))]) (wsN := (WX8_best cI cJ cZ cB a_o a_o_text a_o_sketch a_o_plan a_o_now a_o_copy a_o_past a_o_slots a_o_sights a_o_finder a_o_odds a_o_plan_prices a_o_plan_seats a_o_plan_joined a_o_plan_views a_o_now_prices a_o_now_free a_o_now_sizes a_o_now_limits a_o_now_places a_o_now_paid a_o_now_queue v_o_seed v_o_plan_rows v_o_plan_awaited d_o_plan_seats d_o_plan_joined d_o_plan_views v_o_now_asked v_o_now_waiting v_o_now_fee v_o_now_takings d_o_now_prices d_o_now_free q5.2.1 q5.2.2.1 q5.2.2.2.1 q5.2.2.2.2)) (va_runV (As := [.ref a_o_plan, .ref a_o_now, .int x1, .int x2, .int (0 : Int32), .int (15 : Int32)]) (rest := []) ⟨hx, hb, hml, hown, hts⟩ ((kX1_look l D cI cJ cZ cB a_o_finder a_o_plan a_o_plan_prices a_o_plan_seats a_o_plan_joined a_o_plan_views a_o_now a_o_now_prices a_o_now_free a_o_now_sizes a_o_now_limits a_o_now_places a_o_now_paid a_o_now_queue v_o_finder_places v_o_finder_place v_o_finder_quality v_o_finder_price v_o_plan_rows v_o_plan_awaited d_o_plan_seats d_o_plan_joined d_o_plan_views v_o_now_asked v_o_now_waiting v_o_now_fee v_o_now_takings d_o_now_prices d_o_now_free x1 x2 (0 : Int32) (15 : Int32) q5 hq6) _) (cwV 6 hts gX8_best_X1_look rfl rfl rfl (by decide +kernel) ⟨Nat.le_of_ble_eq_true rfl, Nat.le_of_ble_eq_true rfl⟩) ⟨PRw.blind, va_recv hK.1 hPc (ci := 1) (q0 := 0) rfl rfl, PRw.at hK hPc hDc⟩ rfl rfl hl.1 rfl (lv_room (Nat.le_of_ble_eq_true rfl)) dX8_best_43 ⟨Nat.zero_le _, Nat.zero_le _⟩) hP hD hS hA [8, 1, 2, 3, 4, 5, 6, 7] [0] [0, 2, 3, 4, 5, 6, 7, 8, 1] rfl rfl (by decide) (by decide) rfl (by decide) (fun H locs hP hD hS => ?_)
          refine lv_istore (lv' := [(4, .int q5.1), (0, .ref a_o), (1, .int x1), (2, .int x2), (3, .int x3)]) hx hb dX8_best_46 hl (by decide) rfl (fun ls hl => ?_)
          refine lv_iload_n hx hb dX8_best_48 rfl (lv_at hl 4 rfl) ?_
          refine lv_iconst (v := (2 : Int32)) hx hb dX8_best_49 (by decide) ?_
          refine lv_icmp_ne (tgt := 61) hx hb dX8_best_50 (by decide) (fun hc => ?_) (fun hc => ?_)
          · have hf := pf_f hc hf
            refine lv_iload hx hb dX8_best_61 (lv_at hl 0 rfl) ?_
            refine lv_bipush (v := (-9 : Int32)) hx hb dX8_best_63 (by decide) ?_
            refine lv_icmp_ne (tgt := 71) hx hb dX8_best_65 (by decide) (fun hc => ?_) (fun hc => ?_)
            · have hf := pf_f hc hf
              refine lv_iload_n hx hb dX8_best_71 rfl (lv_at hl 4 rfl) ?_
              refine lv_if_ne (tgt := 80) hx hb dX8_best_72 (by decide) (fun hc => ?_) (fun hc => ?_)
              · have hf := pf_f hc hf
                refine lv_aload_n hx hb dX8_best_80 rfl (lv_at hl 1 rfl) ?_
                refine va_get (D := D) (ci := 8) (v := .ref a_o_finder) (C := RX8) (T := TX8) (N := 11) hx hb hts iX8_best_X8 hown hK.1 hP 0 rfl rfl 8 (by decide) (hts (.fieldLink RX8 60 "LoneSeats" "finder" "LLoneSeats$Finder;") (by decide +kernel)) (fun _ h9 => h9) rfl dX8_best_81 ?_
                obtain ⟨q7, hq8, hf⟩ := pf_b hf
                have hPc := hP.sub (ws' := (WX1_quality cI cJ cZ cB a_o_finder q5.2.1 q5.2.2.1 q5.2.2.2.1 q5.2.2.2.2)) [8] rfl
                refine cl_roi (va_runV (As := []) (rest := []) ⟨hx, hb, hml, hown, hts⟩ (kX1_quality l D cI cJ cZ cB a_o_finder q5.2.1 q5.2.2.1 q5.2.2.2.1 q5.2.2.2.2 q7 hq8) (cwV 0 hts gX8_best_X1_quality rfl rfl rfl (by decide +kernel) ⟨Nat.le_of_ble_eq_true rfl, Nat.le_of_ble_eq_true rfl⟩) ⟨PRo.blind, va_recv hK.1 hPc (ci := 1) (q0 := 0) rfl rfl, PRo.at hK hPc⟩ rfl rfl hl.1 rfl (lv_room (Nat.le_of_ble_eq_true rfl)) dX8_best_84 ⟨Nat.zero_le _, Nat.zero_le _⟩) ?_
                cases hf
                exact W.iret (v := q7) hx hb hr (fun t ht hW => ⟨⟨rfl, by rw [ht]; exact hP, hD⟩, hS.F ht⟩) hS.2.2 dX8_best_87
              · have hf := pf_t hc hf
                refine lv_iload hx hb dX8_best_75 (lv_at hl 0 rfl) ?_
                refine lv_goto (tgt := 87) hx hb dX8_best_77 (by decide) ?_
                cases hf
                exact W.iret (v := q5.1) hx hb hr (fun t ht hW => ⟨⟨rfl, by rw [ht]; exact hP, hD⟩, hS.F ht⟩) hS.2.2 dX8_best_87
            · have hf := pf_t hc hf
              refine lv_bipush (v := (-9 : Int32)) hx hb dX8_best_68 (by decide) ?_
              cases hf
              exact W.iret (v := (-9 : Int32)) hx hb hr (fun t ht hW => ⟨⟨rfl, by rw [ht]; exact hP, hD⟩, hS.F ht⟩) hS.2.2 dX8_best_70
          · have hf := pf_t hc hf
            refine lv_aload_n hx hb dX8_best_53 rfl (lv_at hl 1 rfl) ?_
            refine va_get (D := D) (ci := 8) (v := .ref a_o_finder) (C := RX8) (T := TX8) (N := 11) hx hb hts iX8_best_X8 hown hK.1 hP 0 rfl rfl 8 (by decide) (hts (.fieldLink RX8 60 "LoneSeats" "finder" "LLoneSeats$Finder;") (by decide +kernel)) (fun _ h9 => h9) rfl dX8_best_54 ?_
            obtain ⟨q9, hq10, hf⟩ := pf_b hf
            have hPc := hP.sub (ws' := (WX1_places cI cJ cZ cB a_o_finder q5.2.1 q5.2.2.1 q5.2.2.2.1 q5.2.2.2.2)) [8] rfl
            refine cl_roi (va_runV (As := []) (rest := []) ⟨hx, hb, hml, hown, hts⟩ (kX1_places l D cI cJ cZ cB a_o_finder q5.2.1 q5.2.2.1 q5.2.2.2.1 q5.2.2.2.2 q9 hq10) (cwV 0 hts gX8_best_X1_places rfl rfl rfl (by decide +kernel) ⟨Nat.le_of_ble_eq_true rfl, Nat.le_of_ble_eq_true rfl⟩) ⟨PRo.blind, va_recv hK.1 hPc (ci := 1) (q0 := 0) rfl rfl, PRo.at hK hPc⟩ rfl rfl hl.1 rfl (lv_room (Nat.le_of_ble_eq_true rfl)) dX8_best_57 ⟨Nat.zero_le _, Nat.zero_le _⟩) ?_
            cases hf
            exact W.iret (v := q9) hx hb hr (fun t ht hW => ⟨⟨rfl, by rw [ht]; exact hP, hD⟩, hS.F ht⟩) hS.2.2 dX8_best_60
        · have hf := pf_f hc hf
          refine lv_bipush (v := (-2 : Int32)) hx hb dX8_best_23 (by decide) ?_
          cases hf
          exact W.iret (v := (-2 : Int32)) hx hb hr (fun t ht hW => ⟨⟨rfl, by rw [ht]; exact hP, hD⟩, hS.F ht⟩) hS.2.2 dX8_best_25
abbrev WX8_room (cI cJ cZ cB : ClassId) (a_o : Nat) (a_o_text : Nat) (a_o_sketch : Nat) (a_o_plan : Nat) (a_o_now : Nat) (a_o_copy : Nat) (a_o_past : Nat) (a_o_slots : Nat) (a_o_sights : Nat) (a_o_finder : Nat) (a_o_odds : Nat) (a_o_plan_prices : Nat) (a_o_plan_seats : Nat) (a_o_plan_joined : Nat) (a_o_plan_views : Nat) (a_o_now_prices : Nat) (a_o_now_free : Nat) (a_o_now_sizes : Nat) (a_o_now_limits : Nat) (a_o_now_places : Nat) (a_o_now_paid : Nat) (a_o_now_queue : Nat) (a_o_copy_prices : Nat) (a_o_copy_free : Nat) (a_o_copy_sizes : Nat) (a_o_copy_limits : Nat) (a_o_copy_places : Nat) (a_o_copy_paid : Nat) (a_o_copy_queue : Nat) (v_o_seed : Int64) (v_o_plan_rows : Int32) (v_o_plan_awaited : Int32) (d_o_plan_seats : (Nat → Int32)) (d_o_plan_joined : (Nat → Int32)) (d_o_plan_views : (Nat → Int32)) (v_o_now_asked : Int32) (v_o_now_waiting : Int32) (v_o_now_fee : Int32) (v_o_now_takings : Int32) (d_o_now_prices : (Nat → Int32)) (d_o_now_free : (Nat → Int32)) (d_o_now_sizes : (Nat → Int32)) (d_o_now_limits : (Nat → Int32)) (d_o_now_places : (Nat → Int32)) (d_o_now_paid : (Nat → Int32)) (d_o_now_queue : (Nat → Int32)) (v_o_copy_asked : Int32) (v_o_copy_waiting : Int32) (v_o_copy_fee : Int32) (v_o_copy_takings : Int32) (d_o_copy_prices : (Nat → Int32)) (d_o_copy_free : (Nat → Int32)) (d_o_copy_sizes : (Nat → Int32)) (d_o_copy_limits : (Nat → Int32)) (d_o_copy_places : (Nat → Int32)) (d_o_copy_paid : (Nat → Int32)) (d_o_copy_queue : (Nat → Int32)) (v_o_finder_places : Int32) (v_o_finder_place : Int32) (v_o_finder_quality : Int32) (v_o_finder_price : Int32) : va_W := [(a_o, .inr (8, [.ref a_o_text, .ref a_o_sketch, .ref a_o_plan, .ref a_o_now, .ref a_o_copy, .ref a_o_past, .ref a_o_slots, .ref a_o_sights, .ref a_o_finder, .ref a_o_odds, .long v_o_seed])), (a_o_plan, .inr (4, [.ref a_o_plan_prices, .ref a_o_plan_seats, .ref a_o_plan_joined, .ref a_o_plan_views, .int v_o_plan_rows, .int v_o_plan_awaited])), (a_o_plan_seats, .inl (cI, (4, .inl d_o_plan_seats))), (a_o_plan_joined, .inl (cI, (4, .inl d_o_plan_joined))), (a_o_plan_views, .inl (cI, (36, .inl d_o_plan_views))), (a_o_now, .inr (0, [.ref a_o_now_prices, .ref a_o_now_free, .ref a_o_now_sizes, .ref a_o_now_limits, .ref a_o_now_places, .ref a_o_now_paid, .ref a_o_now_queue, .int v_o_now_asked, .int v_o_now_waiting, .int v_o_now_fee, .int v_o_now_takings])), (a_o_now_prices, .inl (cI, (4, .inl d_o_now_prices))), (a_o_now_free, .inl (cI, (4, .inl d_o_now_free))), (a_o_now_sizes, .inl (cI, (31, .inl d_o_now_sizes))), (a_o_now_limits, .inl (cI, (31, .inl d_o_now_limits))), (a_o_now_places, .inl (cI, (31, .inl d_o_now_places))), (a_o_now_paid, .inl (cI, (31, .inl d_o_now_paid))), (a_o_now_queue, .inl (cI, (5, .inl d_o_now_queue))), (a_o_copy, .inr (0, [.ref a_o_copy_prices, .ref a_o_copy_free, .ref a_o_copy_sizes, .ref a_o_copy_limits, .ref a_o_copy_places, .ref a_o_copy_paid, .ref a_o_copy_queue, .int v_o_copy_asked, .int v_o_copy_waiting, .int v_o_copy_fee, .int v_o_copy_takings])), (a_o_copy_prices, .inl (cI, (4, .inl d_o_copy_prices))), (a_o_copy_free, .inl (cI, (4, .inl d_o_copy_free))), (a_o_copy_sizes, .inl (cI, (31, .inl d_o_copy_sizes))), (a_o_copy_limits, .inl (cI, (31, .inl d_o_copy_limits))), (a_o_copy_places, .inl (cI, (31, .inl d_o_copy_places))), (a_o_copy_paid, .inl (cI, (31, .inl d_o_copy_paid))), (a_o_copy_queue, .inl (cI, (5, .inl d_o_copy_queue))), (a_o_finder, .inr (1, [.int v_o_finder_places, .int v_o_finder_place, .int v_o_finder_quality, .int v_o_finder_price]))]
set_option maxRecDepth 20000 in
theorem iX8_room_X8 : ∀ w ∈ wsX80, w ∈ wsX8_room := by decide +kernel
def fX8_room_23 : Nat → Int32 → (Nat → Int32) → (Nat → Int32) → (Nat → Int32) → Int32 → Int32 → Int32 → Int32 → (Nat → Int32) → (Nat → Int32) → (Nat → Int32) → (Nat → Int32) → (Nat → Int32) → (Nat → Int32) → (Nat → Int32) → Int32 → Int32 → Int32 → Int32 → (Nat → Int32) → (Nat → Int32) → (Nat → Int32) → (Nat → Int32) → (Nat → Int32) → (Nat → Int32) → (Nat → Int32) → Int32 → Int32 → Int32 → Int32 → Int32 → Int32 → Option (Int32 × Int32 × Int32 × Int32 × Int32 × (Nat → Int32) × (Nat → Int32) × (Nat → Int32) × (Nat → Int32) × (Nat → Int32) × (Nat → Int32) × (Nat → Int32) × Int32 × Int32 × Int32 × Int32)
  | 0, _, _, _, _, _, _, _, _, _, _, _, _, _, _, _, _, _, _, _, _, _, _, _, _, _, _, _, _, _, _, _, _ => none
  | n + 1, v_o_plan_rows, d_o_plan_seats, d_o_plan_joined, d_o_plan_views, v_o_now_asked, v_o_now_waiting, v_o_now_fee, v_o_now_takings, d_o_now_prices, d_o_now_free, d_o_now_sizes, d_o_now_limits, d_o_now_places, d_o_now_paid, d_o_now_queue, v_o_copy_asked, v_o_copy_waiting, v_o_copy_fee, v_o_copy_takings, d_o_copy_prices, d_o_copy_free, d_o_copy_sizes, d_o_copy_limits, d_o_copy_places, d_o_copy_paid, d_o_copy_queue, v_o_finder_places, v_o_finder_place, v_o_finder_quality, v_o_finder_price, x1, x2 => (if (36 : Int32) ≤ x2 then some ((36 : Int32), v_o_copy_asked, v_o_copy_waiting, v_o_copy_fee, v_o_copy_takings, d_o_copy_prices, d_o_copy_free, d_o_copy_sizes, d_o_copy_limits, d_o_copy_places, d_o_copy_paid, d_o_copy_queue, v_o_finder_places, v_o_finder_place, v_o_finder_quality, v_o_finder_price) else ((fX1_look v_o_finder_places v_o_finder_place v_o_finder_quality v_o_finder_price v_o_plan_rows d_o_plan_seats d_o_plan_joined d_o_plan_views d_o_copy_prices d_o_copy_free x1 (9 : Int32) (0 : Int32) (15 : Int32)).bind fun q1 => (if q1.1 = (-9 : Int32) then some (x2, v_o_copy_asked, v_o_copy_waiting, v_o_copy_fee, v_o_copy_takings, d_o_copy_prices, d_o_copy_free, d_o_copy_sizes, d_o_copy_limits, d_o_copy_places, d_o_copy_paid, d_o_copy_queue, q1.2.1, q1.2.2.1, q1.2.2.2.1, q1.2.2.2.2) else ((fX0_take d_o_copy_free q1.1 x1).bind fun q3 => fX8_room_23 n v_o_plan_rows d_o_plan_seats d_o_plan_joined d_o_plan_views v_o_now_asked v_o_now_waiting v_o_now_fee v_o_now_takings d_o_now_prices d_o_now_free d_o_now_sizes d_o_now_limits d_o_now_places d_o_now_paid d_o_now_queue v_o_copy_asked v_o_copy_waiting v_o_copy_fee v_o_copy_takings d_o_copy_prices q3 d_o_copy_sizes d_o_copy_limits d_o_copy_places d_o_copy_paid d_o_copy_queue q1.2.1 q1.2.2.1 q1.2.2.2.1 q1.2.2.2.2 x1 (x2 + (1 : Int32))))))
set_option maxRecDepth 100000 in
set_option maxHeartbeats 4000000 in
theorem tX8_room_23 {p : Program} {l : Launch} {e : Env} {s : State} {m : MethodId} {args : Array Value} {below : List Frame} {meth : Method} {c : Code} {D : va_G} {cI cJ cZ cB : ClassId} {a_o : Nat} {a_o_text : Nat} {a_o_sketch : Nat} {a_o_plan : Nat} {a_o_now : Nat} {a_o_copy : Nat} {a_o_past : Nat} {a_o_slots : Nat} {a_o_sights : Nat} {a_o_finder : Nat} {a_o_odds : Nat} {a_o_plan_prices : Nat} {a_o_plan_seats : Nat} {a_o_plan_joined : Nat} {a_o_plan_views : Nat} {a_o_now_prices : Nat} {a_o_now_free : Nat} {a_o_now_sizes : Nat} {a_o_now_limits : Nat} {a_o_now_places : Nat} {a_o_now_paid : Nat} {a_o_now_queue : Nat} {a_o_copy_prices : Nat} {a_o_copy_free : Nat} {a_o_copy_sizes : Nat} {a_o_copy_limits : Nat} {a_o_copy_places : Nat} {a_o_copy_paid : Nat} {a_o_copy_queue : Nat} {A : Nat → Prop} (C : Cx p s m args meth c cX8_room 4 (some .int) wsX8_room RX8) (hK : Kw D (tyL cI cJ cZ cB) s) (hA : ∀ q : Nat, s.heap.size ≤ q → A q) : ∀ (n : Nat), ∀ (v_o_seed : Int64) (v_o_plan_rows : Int32) (v_o_plan_awaited : Int32) (d_o_plan_seats : (Nat → Int32)) (d_o_plan_joined : (Nat → Int32)) (d_o_plan_views : (Nat → Int32)) (v_o_now_asked : Int32) (v_o_now_waiting : Int32) (v_o_now_fee : Int32) (v_o_now_takings : Int32) (d_o_now_prices : (Nat → Int32)) (d_o_now_free : (Nat → Int32)) (d_o_now_sizes : (Nat → Int32)) (d_o_now_limits : (Nat → Int32)) (d_o_now_places : (Nat → Int32)) (d_o_now_paid : (Nat → Int32)) (d_o_now_queue : (Nat → Int32)) (v_o_copy_asked : Int32) (v_o_copy_waiting : Int32) (v_o_copy_fee : Int32) (v_o_copy_takings : Int32) (d_o_copy_prices : (Nat → Int32)) (d_o_copy_free : (Nat → Int32)) (d_o_copy_sizes : (Nat → Int32)) (d_o_copy_limits : (Nat → Int32)) (d_o_copy_places : (Nat → Int32)) (d_o_copy_paid : (Nat → Int32)) (d_o_copy_queue : (Nat → Int32)) (v_o_finder_places : Int32) (v_o_finder_place : Int32) (v_o_finder_quality : Int32) (v_o_finder_price : Int32) (x1 : Int32) (x2 : Int32) (H : Heap) (locs : List Loc) (ls : Array Slot) (res : Int32 × Int32 × Int32 × Int32 × Int32 × (Nat → Int32) × (Nat → Int32) × (Nat → Int32) × (Nat → Int32) × (Nat → Int32) × (Nat → Int32) × (Nat → Int32) × Int32 × Int32 × Int32 × Int32), va_P D vwCl (WX8_room cI cJ cZ cB a_o a_o_text a_o_sketch a_o_plan a_o_now a_o_copy a_o_past a_o_slots a_o_sights a_o_finder a_o_odds a_o_plan_prices a_o_plan_seats a_o_plan_joined a_o_plan_views a_o_now_prices a_o_now_free a_o_now_sizes a_o_now_limits a_o_now_places a_o_now_paid a_o_now_queue a_o_copy_prices a_o_copy_free a_o_copy_sizes a_o_copy_limits a_o_copy_places a_o_copy_paid a_o_copy_queue v_o_seed v_o_plan_rows v_o_plan_awaited d_o_plan_seats d_o_plan_joined d_o_plan_views v_o_now_asked v_o_now_waiting v_o_now_fee v_o_now_takings d_o_now_prices d_o_now_free d_o_now_sizes d_o_now_limits d_o_now_places d_o_now_paid d_o_now_queue v_o_copy_asked v_o_copy_waiting v_o_copy_fee v_o_copy_takings d_o_copy_prices d_o_copy_free d_o_copy_sizes d_o_copy_limits d_o_copy_places d_o_copy_paid d_o_copy_queue v_o_finder_places v_o_finder_place v_o_finder_quality v_o_finder_price) H → va_D A (WX8_room cI cJ cZ cB a_o a_o_text a_o_sketch a_o_plan a_o_now a_o_copy a_o_past a_o_slots a_o_sights a_o_finder a_o_odds a_o_plan_prices a_o_plan_seats a_o_plan_joined a_o_plan_views a_o_now_prices a_o_now_free a_o_now_sizes a_o_now_limits a_o_now_places a_o_now_paid a_o_now_queue a_o_copy_prices a_o_copy_free a_o_copy_sizes a_o_copy_limits a_o_copy_places a_o_copy_paid a_o_copy_queue v_o_seed v_o_plan_rows v_o_plan_awaited d_o_plan_seats d_o_plan_joined d_o_plan_views v_o_now_asked v_o_now_waiting v_o_now_fee v_o_now_takings d_o_now_prices d_o_now_free d_o_now_sizes d_o_now_limits d_o_now_places d_o_now_paid d_o_now_queue v_o_copy_asked v_o_copy_waiting v_o_copy_fee v_o_copy_takings d_o_copy_prices d_o_copy_free d_o_copy_sizes d_o_copy_limits d_o_copy_places d_o_copy_paid d_o_copy_queue v_o_finder_places v_o_finder_place v_o_finder_quality v_o_finder_price) → va_S A s.heap H locs → lv_has ls 4 [(0, .ref a_o), (1, .int x1), (2, .int x2)] → fX8_room_23 n v_o_plan_rows d_o_plan_seats d_o_plan_joined d_o_plan_views v_o_now_asked v_o_now_waiting v_o_now_fee v_o_now_takings d_o_now_prices d_o_now_free d_o_now_sizes d_o_now_limits d_o_now_places d_o_now_paid d_o_now_queue v_o_copy_asked v_o_copy_waiting v_o_copy_fee v_o_copy_takings d_o_copy_prices d_o_copy_free d_o_copy_sizes d_o_copy_limits d_o_copy_places d_o_copy_paid d_o_copy_queue v_o_finder_places v_o_finder_place v_o_finder_quality v_o_finder_price x1 x2 = some res → W p l e ({ frames := 4, cells := 0, slots := 0, locals := 102 } : Room) s m args below meth c H locs 0 0 (MQ below (QRw D A (WX8_room cI cJ cZ cB a_o a_o_text a_o_sketch a_o_plan a_o_now a_o_copy a_o_past a_o_slots a_o_sights a_o_finder a_o_odds a_o_plan_prices a_o_plan_seats a_o_plan_joined a_o_plan_views a_o_now_prices a_o_now_free a_o_now_sizes a_o_now_limits a_o_now_places a_o_now_paid a_o_now_queue a_o_copy_prices a_o_copy_free a_o_copy_sizes a_o_copy_limits a_o_copy_places a_o_copy_paid a_o_copy_queue v_o_seed v_o_plan_rows v_o_plan_awaited d_o_plan_seats d_o_plan_joined d_o_plan_views v_o_now_asked v_o_now_waiting v_o_now_fee v_o_now_takings d_o_now_prices d_o_now_free d_o_now_sizes d_o_now_limits d_o_now_places d_o_now_paid d_o_now_queue res.2.1 res.2.2.1 res.2.2.2.1 res.2.2.2.2.1 res.2.2.2.2.2.1 res.2.2.2.2.2.2.1 res.2.2.2.2.2.2.2.1 res.2.2.2.2.2.2.2.2.1 res.2.2.2.2.2.2.2.2.2.1 res.2.2.2.2.2.2.2.2.2.2.1 res.2.2.2.2.2.2.2.2.2.2.2.1 res.2.2.2.2.2.2.2.2.2.2.2.2.1 res.2.2.2.2.2.2.2.2.2.2.2.2.2.1 res.2.2.2.2.2.2.2.2.2.2.2.2.2.2.1 res.2.2.2.2.2.2.2.2.2.2.2.2.2.2.2) (some (.int res.1))) args s 0 0 A) (F0 m 23 ls []) := by
  obtain ⟨hx, hb, hr, hml, hts, hown, hlk⟩ := id C
  intro n
  induction n with
  | zero =>
    intro v_o_seed v_o_plan_rows v_o_plan_awaited d_o_plan_seats d_o_plan_joined d_o_plan_views v_o_now_asked v_o_now_waiting v_o_now_fee v_o_now_takings d_o_now_prices d_o_now_free d_o_now_sizes d_o_now_limits d_o_now_places d_o_now_paid d_o_now_queue v_o_copy_asked v_o_copy_waiting v_o_copy_fee v_o_copy_takings d_o_copy_prices d_o_copy_free d_o_copy_sizes d_o_copy_limits d_o_copy_places d_o_copy_paid d_o_copy_queue v_o_finder_places v_o_finder_place v_o_finder_quality v_o_finder_price x1 x2 H locs ls res hP hD hS hl hf
    rw [fX8_room_23] at hf
    cases hf
  | succ n ih =>
    intro v_o_seed v_o_plan_rows v_o_plan_awaited d_o_plan_seats d_o_plan_joined d_o_plan_views v_o_now_asked v_o_now_waiting v_o_now_fee v_o_now_takings d_o_now_prices d_o_now_free d_o_now_sizes d_o_now_limits d_o_now_places d_o_now_paid d_o_now_queue v_o_copy_asked v_o_copy_waiting v_o_copy_fee v_o_copy_takings d_o_copy_prices d_o_copy_free d_o_copy_sizes d_o_copy_limits d_o_copy_places d_o_copy_paid d_o_copy_queue v_o_finder_places v_o_finder_place v_o_finder_quality v_o_finder_price x1 x2 H locs ls res hP hD hS hl hf
    rw [fX8_room_23] at hf
    refine lv_iload_n hx hb dX8_room_23 rfl (lv_at hl 2 rfl) ?_
    refine lv_bipush (v := (36 : Int32)) hx hb dX8_room_24 (by decide) ?_
    refine lv_icmp_ge (tgt := 74) hx hb dX8_room_26 (by decide) (fun hc => ?_) (fun hc => ?_)
    · have hf := pf_t hc hf
      refine lv_bipush (v := (36 : Int32)) hx hb dX8_room_74 (by decide) ?_
      cases hf
      exact W.iret (v := (36 : Int32)) hx hb hr (fun t ht hW => ⟨⟨rfl, by rw [ht]; exact hP, hD⟩, hS.F ht⟩) hS.2.2 dX8_room_76
    · have hf := pf_f hc hf
      refine lv_aload_n hx hb dX8_room_29 rfl (lv_at hl 0 rfl) ?_
      refine va_get (D := D) (ci := 8) (v := .ref a_o_finder) (C := RX8) (T := TX8) (N := 11) hx hb hts iX8_room_X8 hown hK.1 hP 0 rfl rfl 8 (by decide) (hts (.fieldLink RX8 60 "LoneSeats" "finder" "LLoneSeats$Finder;") (by decide +kernel)) (fun _ h9 => h9) rfl dX8_room_30 ?_
      refine lv_aload_n hx hb dX8_room_33 rfl (lv_at hl 0 rfl) ?_
      refine va_get (D := D) (ci := 8) (v := .ref a_o_plan) (C := RX8) (T := TX8) (N := 11) hx hb hts iX8_room_X8 hown hK.1 hP 0 rfl rfl 2 (by decide) (hts (.fieldLink RX8 23 "LoneSeats" "plan" "LLoneSeats$Plan;") (by decide +kernel)) (fun _ h9 => h9) rfl dX8_room_34 ?_
      refine lv_aload_n hx hb dX8_room_37 rfl (lv_at hl 0 rfl) ?_
      refine va_get (D := D) (ci := 8) (v := .ref a_o_copy) (C := RX8) (T := TX8) (N := 11) hx hb hts iX8_room_X8 hown hK.1 hP 0 rfl rfl 4 (by decide) (hts (.fieldLink RX8 33 "LoneSeats" "copy" "LLoneSeats$Bookings;") (by decide +kernel)) (fun _ h9 => h9) rfl dX8_room_38 ?_
      refine lv_iload_n hx hb dX8_room_41 rfl (lv_at hl 1 rfl) ?_
      refine lv_bipush (v := (9 : Int32)) hx hb dX8_room_42 (by decide) ?_
      refine lv_iconst (v := (0 : Int32)) hx hb dX8_room_44 (by decide) ?_
      refine lv_bipush (v := (15 : Int32)) hx hb dX8_room_45 (by decide) ?_
      obtain ⟨q1, hq2, hf⟩ := pf_b hf
      have hPc := hP.sub (ws' := (WX1_look cI cJ cZ cB a_o_finder a_o_plan a_o_plan_prices a_o_plan_seats a_o_plan_joined a_o_plan_views a_o_copy a_o_copy_prices a_o_copy_free a_o_copy_sizes a_o_copy_limits a_o_copy_places a_o_copy_paid a_o_copy_queue v_o_finder_places v_o_finder_place v_o_finder_quality v_o_finder_price v_o_plan_rows v_o_plan_awaited d_o_plan_seats d_o_plan_joined d_o_plan_views v_o_copy_asked v_o_copy_waiting v_o_copy_fee v_o_copy_takings d_o_copy_prices d_o_copy_free)) [21, 1, 2, 3, 4, 13, 14, 15] rfl
      have hDc := hD.sub (ws' := (WX1_look cI cJ cZ cB a_o_finder a_o_plan a_o_plan_prices a_o_plan_seats a_o_plan_joined a_o_plan_views a_o_copy a_o_copy_prices a_o_copy_free a_o_copy_sizes a_o_copy_limits a_o_copy_places a_o_copy_paid a_o_copy_queue v_o_finder_places v_o_finder_place v_o_finder_quality v_o_finder_price v_o_plan_rows v_o_plan_awaited d_o_plan_seats d_o_plan_joined d_o_plan_views v_o_copy_asked v_o_copy_waiting v_o_copy_fee v_o_copy_takings d_o_copy_prices d_o_copy_free)) [21, 1, 2, 3, 4, 13, 14, 15] (by decide) rfl
      refine cl_rwi (wr := [(a_o, .inr (8, [.ref a_o_text, .ref a_o_sketch, .ref a_o_plan, .ref a_o_now, .ref a_o_copy, .ref a_o_past, .ref a_o_slots, .ref a_o_sights, .ref a_o_finder, .ref a_o_odds, .long v_o_seed])), (a_o_now, .inr (0, [.ref a_o_now_prices, .ref a_o_now_free, .ref a_o_now_sizes, .ref a_o_now_limits, .ref a_o_now_places, .ref a_o_now_paid, .ref a_o_now_queue, .int v_o_now_asked, .int v_o_now_waiting, .int v_o_now_fee, .int v_o_now_takings])), (a_o_now_prices, .inl (cI, (4, .inl d_o_now_prices))), (a_o_now_free, .inl (cI, (4, .inl d_o_now_free))), (a_o_now_sizes, .inl (cI, (31, .inl d_o_now_sizes))), (a_o_now_limits, .inl (cI, (31, .inl d_o_now_limits))), (a_o_now_places, .inl (cI, (31, .inl d_o_now_places))), (a_o_now_paid, .inl (cI, (31, .inl d_o_now_paid))), (a_o_now_queue, .inl (cI, (5, .inl d_o_now_queue))), (a_o_copy_sizes, .inl (cI, (31, .inl d_o_copy_sizes))), (a_o_copy_limits, .inl (cI, (31, .inl d_o_copy_limits))), (a_o_copy_places, .inl (cI, (31, .inl d_o_copy_places))), (a_o_copy_paid, .inl (cI, (31, .inl d_o_copy_paid))), (a_o_copy_queue, .inl (cI, (5, .inl d_o_copy_queue)))]) (wsN := (WX8_room cI cJ cZ cB a_o a_o_text a_o_sketch a_o_plan a_o_now a_o_copy a_o_past a_o_slots a_o_sights a_o_finder a_o_odds a_o_plan_prices a_o_plan_seats a_o_plan_joined a_o_plan_views a_o_now_prices a_o_now_free a_o_now_sizes a_o_now_limits a_o_now_places a_o_now_paid a_o_now_queue a_o_copy_prices a_o_copy_free a_o_copy_sizes a_o_copy_limits a_o_copy_places a_o_copy_paid a_o_copy_queue v_o_seed v_o_plan_rows v_o_plan_awaited d_o_plan_seats d_o_plan_joined d_o_plan_views v_o_now_asked v_o_now_waiting v_o_now_fee v_o_now_takings d_o_now_prices d_o_now_free d_o_now_sizes d_o_now_limits d_o_now_places d_o_now_paid d_o_now_queue v_o_copy_asked v_o_copy_waiting v_o_copy_fee v_o_copy_takings d_o_copy_prices d_o_copy_free d_o_copy_sizes d_o_copy_limits d_o_copy_places d_o_copy_paid d_o_copy_queue q1.2.1 q1.2.2.1 q1.2.2.2.1 q1.2.2.2.2)) (va_runV (As := [.ref a_o_plan, .ref a_o_copy, .int x1, .int (9 : Int32), .int (0 : Int32), .int (15 : Int32)]) (rest := []) ⟨hx, hb, hml, hown, hts⟩ ((kX1_look l D cI cJ cZ cB a_o_finder a_o_plan a_o_plan_prices a_o_plan_seats a_o_plan_joined a_o_plan_views a_o_copy a_o_copy_prices a_o_copy_free a_o_copy_sizes a_o_copy_limits a_o_copy_places a_o_copy_paid a_o_copy_queue v_o_finder_places v_o_finder_place v_o_finder_quality v_o_finder_price v_o_plan_rows v_o_plan_awaited d_o_plan_seats d_o_plan_joined d_o_plan_views v_o_copy_asked v_o_copy_waiting v_o_copy_fee v_o_copy_takings d_o_copy_prices d_o_copy_free x1 (9 : Int32) (0 : Int32) (15 : Int32) q1 hq2) _) (cwV 6 hts gX8_room_X1_look rfl rfl rfl (by decide +kernel) ⟨Nat.le_of_ble_eq_true rfl, Nat.le_of_ble_eq_true rfl⟩) ⟨PRw.blind, va_recv hK.1 hPc (ci := 1) (q0 := 0) rfl rfl, PRw.at hK hPc hDc⟩ rfl rfl hl.1 rfl (lv_room (Nat.le_of_ble_eq_true rfl)) dX8_room_47 ⟨Nat.zero_le _, Nat.zero_le _⟩) hP hD hS hA [21, 1, 2, 3, 4, 13, 14, 15] [0, 5, 6, 7, 8, 9, 10, 11, 12, 16, 17, 18, 19, 20] [0, 15, 16, 17, 18, 1, 2, 3, 4, 5, 6, 7, 8, 19, 20, 21, 9, 10, 11, 12, 13, 14] rfl rfl (by decide) (by decide) rfl (by decide) (fun H locs hP hD hS => ?_)
      refine lv_istore_n (lv' := [(3, .int q1.1), (0, .ref a_o), (1, .int x1), (2, .int x2)]) hx hb dX8_room_50 rfl hl (by decide) rfl (fun ls hl => ?_)
      refine lv_iload_n hx hb dX8_room_51 rfl (lv_at hl 0 rfl) ?_
      refine lv_bipush (v := (-9 : Int32)) hx hb dX8_room_52 (by decide) ?_
      refine lv_icmp_ne (tgt := 59) hx hb dX8_room_54 (by decide) (fun hc => ?_) (fun hc => ?_)
      · have hf := pf_f hc hf
        refine lv_aload_n hx hb dX8_room_59 rfl (lv_at hl 1 rfl) ?_
        refine va_get (D := D) (ci := 8) (v := .ref a_o_copy) (C := RX8) (T := TX8) (N := 11) hx hb hts iX8_room_X8 hown hK.1 hP 0 rfl rfl 4 (by decide) (hts (.fieldLink RX8 33 "LoneSeats" "copy" "LLoneSeats$Bookings;") (by decide +kernel)) (fun _ h9 => h9) rfl dX8_room_60 ?_
        refine lv_iload_n hx hb dX8_room_63 rfl (lv_at hl 0 rfl) ?_
        refine lv_iload_n hx hb dX8_room_64 rfl (lv_at hl 2 rfl) ?_
        obtain ⟨q3, hq4, hf⟩ := pf_b hf
        have hPc := hP.sub (ws' := (WX0_take cI cJ cZ cB a_o_copy a_o_copy_prices a_o_copy_free a_o_copy_sizes a_o_copy_limits a_o_copy_places a_o_copy_paid a_o_copy_queue v_o_copy_asked v_o_copy_waiting v_o_copy_fee v_o_copy_takings d_o_copy_free)) [13, 15] rfl
        have hDc := hD.sub (ws' := (WX0_take cI cJ cZ cB a_o_copy a_o_copy_prices a_o_copy_free a_o_copy_sizes a_o_copy_limits a_o_copy_places a_o_copy_paid a_o_copy_queue v_o_copy_asked v_o_copy_waiting v_o_copy_fee v_o_copy_takings d_o_copy_free)) [13, 15] (by decide) rfl
        refine cl_rwv (wr := [(a_o, .inr (8, [.ref a_o_text, .ref a_o_sketch, .ref a_o_plan, .ref a_o_now, .ref a_o_copy, .ref a_o_past, .ref a_o_slots, .ref a_o_sights, .ref a_o_finder, .ref a_o_odds, .long v_o_seed])), (a_o_plan, .inr (4, [.ref a_o_plan_prices, .ref a_o_plan_seats, .ref a_o_plan_joined, .ref a_o_plan_views, .int v_o_plan_rows, .int v_o_plan_awaited])), (a_o_plan_seats, .inl (cI, (4, .inl d_o_plan_seats))), (a_o_plan_joined, .inl (cI, (4, .inl d_o_plan_joined))), (a_o_plan_views, .inl (cI, (36, .inl d_o_plan_views))), (a_o_now, .inr (0, [.ref a_o_now_prices, .ref a_o_now_free, .ref a_o_now_sizes, .ref a_o_now_limits, .ref a_o_now_places, .ref a_o_now_paid, .ref a_o_now_queue, .int v_o_now_asked, .int v_o_now_waiting, .int v_o_now_fee, .int v_o_now_takings])), (a_o_now_prices, .inl (cI, (4, .inl d_o_now_prices))), (a_o_now_free, .inl (cI, (4, .inl d_o_now_free))), (a_o_now_sizes, .inl (cI, (31, .inl d_o_now_sizes))), (a_o_now_limits, .inl (cI, (31, .inl d_o_now_limits))), (a_o_now_places, .inl (cI, (31, .inl d_o_now_places))), (a_o_now_paid, .inl (cI, (31, .inl d_o_now_paid))), (a_o_now_queue, .inl (cI, (5, .inl d_o_now_queue))), (a_o_copy_prices, .inl (cI, (4, .inl d_o_copy_prices))), (a_o_copy_sizes, .inl (cI, (31, .inl d_o_copy_sizes))), (a_o_copy_limits, .inl (cI, (31, .inl d_o_copy_limits))), (a_o_copy_places, .inl (cI, (31, .inl d_o_copy_places))), (a_o_copy_paid, .inl (cI, (31, .inl d_o_copy_paid))), (a_o_copy_queue, .inl (cI, (5, .inl d_o_copy_queue))), (a_o_finder, .inr (1, [.int q1.2.1, .int q1.2.2.1, .int q1.2.2.2.1, .int q1.2.2.2.2]))]) (wsN := (WX8_room cI cJ cZ cB a_o a_o_text a_o_sketch a_o_plan a_o_now a_o_copy a_o_past a_o_slots a_o_sights a_o_finder a_o_odds a_o_plan_prices a_o_plan_seats a_o_plan_joined a_o_plan_views a_o_now_prices a_o_now_free a_o_now_sizes a_o_now_limits a_o_now_places a_o_now_paid a_o_now_queue a_o_copy_prices a_o_copy_free a_o_copy_sizes a_o_copy_limits a_o_copy_places a_o_copy_paid a_o_copy_queue v_o_seed v_o_plan_rows v_o_plan_awaited d_o_plan_seats d_o_plan_joined d_o_plan_views v_o_now_asked v_o_now_waiting v_o_now_fee v_o_now_takings d_o_now_prices d_o_now_free d_o_now_sizes d_o_now_limits d_o_now_places d_o_now_paid d_o_now_queue v_o_copy_asked v_o_copy_waiting v_o_copy_fee v_o_copy_takings d_o_copy_prices q3 d_o_copy_sizes d_o_copy_limits d_o_copy_places d_o_copy_paid d_o_copy_queue q1.2.1 q1.2.2.1 q1.2.2.2.1 q1.2.2.2.2)) (va_runV (As := [.int q1.1, .int x1]) (rest := []) ⟨hx, hb, hml, hown, hts⟩ ((kX0_take l D cI cJ cZ cB a_o_copy a_o_copy_prices a_o_copy_free a_o_copy_sizes a_o_copy_limits a_o_copy_places a_o_copy_paid a_o_copy_queue v_o_copy_asked v_o_copy_waiting v_o_copy_fee v_o_copy_takings d_o_copy_free q1.1 x1 q3 hq4) _) (cwV 2 hts gX8_room_X0_take rfl rfl rfl (by decide +kernel) ⟨Nat.le_of_ble_eq_true rfl, Nat.le_of_ble_eq_true rfl⟩) ⟨PRw.blind, va_recv hK.1 hPc (ci := 0) (q0 := 0) rfl rfl, PRw.at hK hPc hDc⟩ rfl rfl hl.1 rfl (lv_room (Nat.le_of_ble_eq_true rfl)) dX8_room_65 ⟨Nat.zero_le _, Nat.zero_le _⟩) hP hD hS hA [13, 15] [0, 1, 2, 3, 4, 5, 6, 7, 8, 9, 10, 11, 12, 14, 16, 17, 18, 19, 20, 21] [0, 1, 2, 3, 4, 5, 6, 7, 8, 9, 10, 11, 12, 20, 13, 21, 14, 15, 16, 17, 18, 19] rfl rfl (by decide) (by decide) rfl (by decide) (fun H locs hP hD hS => ?_)
        refine lv_iinc (v := (x2 + (1 : Int32))) (lv' := [(2, .int (x2 + (1 : Int32))), (3, .int q1.1), (0, .ref a_o), (1, .int x1)]) hx hb dX8_room_68 hl (k := 3) rfl rfl (by decide) rfl (fun ls hl => ?_)
        refine lv_goto (tgt := 23) hx hb dX8_room_71 (by decide) ?_
        exact ih v_o_seed v_o_plan_rows v_o_plan_awaited d_o_plan_seats d_o_plan_joined d_o_plan_views v_o_now_asked v_o_now_waiting v_o_now_fee v_o_now_takings d_o_now_prices d_o_now_free d_o_now_sizes d_o_now_limits d_o_now_places d_o_now_paid d_o_now_queue v_o_copy_asked v_o_copy_waiting v_o_copy_fee v_o_copy_takings d_o_copy_prices q3 d_o_copy_sizes d_o_copy_limits d_o_copy_places d_o_copy_paid d_o_copy_queue q1.2.1 q1.2.2.1 q1.2.2.2.1 q1.2.2.2.2 x1 (x2 + (1 : Int32)) _ _ ls _ hP hD hS (lv_sub hl [2, 3, 0] rfl) hf
      · have hf := pf_t hc hf
        refine lv_iload_n hx hb dX8_room_57 rfl (lv_at hl 3 rfl) ?_
        cases hf
        exact W.iret (v := x2) hx hb hr (fun t ht hW => ⟨⟨rfl, by rw [ht]; exact hP, hD⟩, hS.F ht⟩) hS.2.2 dX8_room_58
def fX8_room (v_o_plan_rows : Int32) (d_o_plan_seats : (Nat → Int32)) (d_o_plan_joined : (Nat → Int32)) (d_o_plan_views : (Nat → Int32)) (v_o_now_asked : Int32) (v_o_now_waiting : Int32) (v_o_now_fee : Int32) (v_o_now_takings : Int32) (d_o_now_prices : (Nat → Int32)) (d_o_now_free : (Nat → Int32)) (d_o_now_sizes : (Nat → Int32)) (d_o_now_limits : (Nat → Int32)) (d_o_now_places : (Nat → Int32)) (d_o_now_paid : (Nat → Int32)) (d_o_now_queue : (Nat → Int32)) (v_o_copy_asked : Int32) (v_o_copy_waiting : Int32) (v_o_copy_fee : Int32) (v_o_copy_takings : Int32) (d_o_copy_prices : (Nat → Int32)) (d_o_copy_free : (Nat → Int32)) (d_o_copy_sizes : (Nat → Int32)) (d_o_copy_limits : (Nat → Int32)) (d_o_copy_places : (Nat → Int32)) (d_o_copy_paid : (Nat → Int32)) (d_o_copy_queue : (Nat → Int32)) (v_o_finder_places : Int32) (v_o_finder_place : Int32) (v_o_finder_quality : Int32) (v_o_finder_price : Int32) (x1 : Int32) : Option (Int32 × Int32 × Int32 × Int32 × Int32 × (Nat → Int32) × (Nat → Int32) × (Nat → Int32) × (Nat → Int32) × (Nat → Int32) × (Nat → Int32) × (Nat → Int32) × Int32 × Int32 × Int32 × Int32) := ((fX8_isSize x1).bind fun q1 => (if q1 = 0 then some ((-2 : Int32), v_o_copy_asked, v_o_copy_waiting, v_o_copy_fee, v_o_copy_takings, d_o_copy_prices, d_o_copy_free, d_o_copy_sizes, d_o_copy_limits, d_o_copy_places, d_o_copy_paid, d_o_copy_queue, v_o_finder_places, v_o_finder_place, v_o_finder_quality, v_o_finder_price) else ((fX0_copyFrom v_o_copy_asked v_o_copy_waiting v_o_copy_fee v_o_copy_takings d_o_copy_prices d_o_copy_free d_o_copy_sizes d_o_copy_limits d_o_copy_places d_o_copy_paid d_o_copy_queue v_o_now_asked v_o_now_waiting v_o_now_fee v_o_now_takings d_o_now_prices d_o_now_free d_o_now_sizes d_o_now_limits d_o_now_places d_o_now_paid d_o_now_queue).bind fun q3 => fX8_room_23 FU v_o_plan_rows d_o_plan_seats d_o_plan_joined d_o_plan_views v_o_now_asked v_o_now_waiting v_o_now_fee v_o_now_takings d_o_now_prices d_o_now_free d_o_now_sizes d_o_now_limits d_o_now_places d_o_now_paid d_o_now_queue q3.1 q3.2.1 q3.2.2.1 q3.2.2.2.1 q3.2.2.2.2.1 q3.2.2.2.2.2.1 q3.2.2.2.2.2.2.1 q3.2.2.2.2.2.2.2.1 q3.2.2.2.2.2.2.2.2.1 q3.2.2.2.2.2.2.2.2.2.1 q3.2.2.2.2.2.2.2.2.2.2 v_o_finder_places v_o_finder_place v_o_finder_quality v_o_finder_price x1 (0 : Int32))))
set_option maxRecDepth 100000 in
set_option maxHeartbeats 4000000 in
theorem kX8_room (l : Launch) (D : va_G) (cI cJ cZ cB : ClassId) (a_o : Nat) (a_o_text : Nat) (a_o_sketch : Nat) (a_o_plan : Nat) (a_o_now : Nat) (a_o_copy : Nat) (a_o_past : Nat) (a_o_slots : Nat) (a_o_sights : Nat) (a_o_finder : Nat) (a_o_odds : Nat) (a_o_plan_prices : Nat) (a_o_plan_seats : Nat) (a_o_plan_joined : Nat) (a_o_plan_views : Nat) (a_o_now_prices : Nat) (a_o_now_free : Nat) (a_o_now_sizes : Nat) (a_o_now_limits : Nat) (a_o_now_places : Nat) (a_o_now_paid : Nat) (a_o_now_queue : Nat) (a_o_copy_prices : Nat) (a_o_copy_free : Nat) (a_o_copy_sizes : Nat) (a_o_copy_limits : Nat) (a_o_copy_places : Nat) (a_o_copy_paid : Nat) (a_o_copy_queue : Nat) (v_o_seed : Int64) (v_o_plan_rows : Int32) (v_o_plan_awaited : Int32) (d_o_plan_seats : (Nat → Int32)) (d_o_plan_joined : (Nat → Int32)) (d_o_plan_views : (Nat → Int32)) (v_o_now_asked : Int32) (v_o_now_waiting : Int32) (v_o_now_fee : Int32) (v_o_now_takings : Int32) (d_o_now_prices : (Nat → Int32)) (d_o_now_free : (Nat → Int32)) (d_o_now_sizes : (Nat → Int32)) (d_o_now_limits : (Nat → Int32)) (d_o_now_places : (Nat → Int32)) (d_o_now_paid : (Nat → Int32)) (d_o_now_queue : (Nat → Int32)) (v_o_copy_asked : Int32) (v_o_copy_waiting : Int32) (v_o_copy_fee : Int32) (v_o_copy_takings : Int32) (d_o_copy_prices : (Nat → Int32)) (d_o_copy_free : (Nat → Int32)) (d_o_copy_sizes : (Nat → Int32)) (d_o_copy_limits : (Nat → Int32)) (d_o_copy_places : (Nat → Int32)) (d_o_copy_paid : (Nat → Int32)) (d_o_copy_queue : (Nat → Int32)) (v_o_finder_places : Int32) (v_o_finder_place : Int32) (v_o_finder_quality : Int32) (v_o_finder_price : Int32) (x1 : Int32) (res : Int32 × Int32 × Int32 × Int32 × Int32 × (Nat → Int32) × (Nat → Int32) × (Nat → Int32) × (Nat → Int32) × (Nat → Int32) × (Nat → Int32) × (Nat → Int32) × Int32 × Int32 × Int32 × Int32) (hf : fX8_room v_o_plan_rows d_o_plan_seats d_o_plan_joined d_o_plan_views v_o_now_asked v_o_now_waiting v_o_now_fee v_o_now_takings d_o_now_prices d_o_now_free d_o_now_sizes d_o_now_limits d_o_now_places d_o_now_paid d_o_now_queue v_o_copy_asked v_o_copy_waiting v_o_copy_fee v_o_copy_takings d_o_copy_prices d_o_copy_free d_o_copy_sizes d_o_copy_limits d_o_copy_places d_o_copy_paid d_o_copy_queue v_o_finder_places v_o_finder_place v_o_finder_quality v_o_finder_price x1 = some res) : Rw l yX8_room wsX8_room ({ frames := 4, cells := 0, slots := 0, locals := 102 } : Room) D (tyL cI cJ cZ cB) [.ref a_o, .int x1] (WX8_room cI cJ cZ cB a_o a_o_text a_o_sketch a_o_plan a_o_now a_o_copy a_o_past a_o_slots a_o_sights a_o_finder a_o_odds a_o_plan_prices a_o_plan_seats a_o_plan_joined a_o_plan_views a_o_now_prices a_o_now_free a_o_now_sizes a_o_now_limits a_o_now_places a_o_now_paid a_o_now_queue a_o_copy_prices a_o_copy_free a_o_copy_sizes a_o_copy_limits a_o_copy_places a_o_copy_paid a_o_copy_queue v_o_seed v_o_plan_rows v_o_plan_awaited d_o_plan_seats d_o_plan_joined d_o_plan_views v_o_now_asked v_o_now_waiting v_o_now_fee v_o_now_takings d_o_now_prices d_o_now_free d_o_now_sizes d_o_now_limits d_o_now_places d_o_now_paid d_o_now_queue v_o_copy_asked v_o_copy_waiting v_o_copy_fee v_o_copy_takings d_o_copy_prices d_o_copy_free d_o_copy_sizes d_o_copy_limits d_o_copy_places d_o_copy_paid d_o_copy_queue v_o_finder_places v_o_finder_place v_o_finder_quality v_o_finder_price) (some (.int res.1)) (WX8_room cI cJ cZ cB a_o a_o_text a_o_sketch a_o_plan a_o_now a_o_copy a_o_past a_o_slots a_o_sights a_o_finder a_o_odds a_o_plan_prices a_o_plan_seats a_o_plan_joined a_o_plan_views a_o_now_prices a_o_now_free a_o_now_sizes a_o_now_limits a_o_now_places a_o_now_paid a_o_now_queue a_o_copy_prices a_o_copy_free a_o_copy_sizes a_o_copy_limits a_o_copy_places a_o_copy_paid a_o_copy_queue v_o_seed v_o_plan_rows v_o_plan_awaited d_o_plan_seats d_o_plan_joined d_o_plan_views v_o_now_asked v_o_now_waiting v_o_now_fee v_o_now_takings d_o_now_prices d_o_now_free d_o_now_sizes d_o_now_limits d_o_now_places d_o_now_paid d_o_now_queue res.2.1 res.2.2.1 res.2.2.2.1 res.2.2.2.2.1 res.2.2.2.2.2.1 res.2.2.2.2.2.2.1 res.2.2.2.2.2.2.2.1 res.2.2.2.2.2.2.2.2.1 res.2.2.2.2.2.2.2.2.2.1 res.2.2.2.2.2.2.2.2.2.2.1 res.2.2.2.2.2.2.2.2.2.2.2.1 res.2.2.2.2.2.2.2.2.2.2.2.2.1 res.2.2.2.2.2.2.2.2.2.2.2.2.2.1 res.2.2.2.2.2.2.2.2.2.2.2.2.2.2.1 res.2.2.2.2.2.2.2.2.2.2.2.2.2.2.2) := by
  refine Rw.of (cc := cX8_room) (maxL := 4) (ret := (some .int)) (own := RX8) (by decide) rfl rfl (Nat.le_of_ble_eq_true rfl) ?_
  intro p e s m below meth c A ls C hK hA hP hD hS hl
  obtain ⟨hx, hb, hr, hml, hts, hown, hlk⟩ := id C
  have hl : lv_has ls 4 [(0, .ref a_o), (1, .int x1)] := hl
  unfold fX8_room at hf
  refine lv_iload_n hx hb dX8_room_0 rfl (lv_at hl 1 rfl) ?_
  obtain ⟨q1, hq2, hf⟩ := pf_b hf
  have hPc := hP.sub (ws' := ([] : va_W)) [] rfl
  refine cl_roi (va_runS (As := [.int x1]) (rest := []) ⟨hx, hb, hml, hown, hts⟩ (kX8_isSize l D cI cJ cZ cB x1 q1 hq2) (va_cwS 1 hts gX8_room_X8_isSize rfl rfl rfl (by decide +kernel) ⟨Nat.le_of_ble_eq_true rfl, Nat.le_of_ble_eq_true rfl⟩) ⟨PRo.blind, PRo.at hK hPc⟩ rfl rfl hl.1 rfl (lv_room (Nat.le_of_ble_eq_true rfl)) dX8_room_1 ⟨Nat.zero_le _, Nat.zero_le _⟩) ?_
  refine lv_if_ne (tgt := 10) hx hb dX8_room_4 (by decide) (fun hc => ?_) (fun hc => ?_)
  · have hf := pf_f hc hf
    refine lv_aload_n hx hb dX8_room_10 rfl (lv_at hl 0 rfl) ?_
    refine va_get (D := D) (ci := 8) (v := .ref a_o_copy) (C := RX8) (T := TX8) (N := 11) hx hb hts iX8_room_X8 hown hK.1 hP 0 rfl rfl 4 (by decide) (hts (.fieldLink RX8 33 "LoneSeats" "copy" "LLoneSeats$Bookings;") (by decide +kernel)) (fun _ h9 => h9) rfl dX8_room_11 ?_
    refine lv_aload_n hx hb dX8_room_14 rfl (lv_at hl 0 rfl) ?_
    refine va_get (D := D) (ci := 8) (v := .ref a_o_now) (C := RX8) (T := TX8) (N := 11) hx hb hts iX8_room_X8 hown hK.1 hP 0 rfl rfl 3 (by decide) (hts (.fieldLink RX8 29 "LoneSeats" "now" "LLoneSeats$Bookings;") (by decide +kernel)) (fun _ h9 => h9) rfl dX8_room_15 ?_
    obtain ⟨q3, hq4, hf⟩ := pf_b hf
    have hPc := hP.sub (ws' := (WX0_copyFrom cI cJ cZ cB a_o_copy a_o_copy_prices a_o_copy_free a_o_copy_sizes a_o_copy_limits a_o_copy_places a_o_copy_paid a_o_copy_queue a_o_now a_o_now_prices a_o_now_free a_o_now_sizes a_o_now_limits a_o_now_places a_o_now_paid a_o_now_queue v_o_copy_asked v_o_copy_waiting v_o_copy_fee v_o_copy_takings d_o_copy_prices d_o_copy_free d_o_copy_sizes d_o_copy_limits d_o_copy_places d_o_copy_paid d_o_copy_queue v_o_now_asked v_o_now_waiting v_o_now_fee v_o_now_takings d_o_now_prices d_o_now_free d_o_now_sizes d_o_now_limits d_o_now_places d_o_now_paid d_o_now_queue)) [13, 14, 15, 16, 17, 18, 19, 20, 5, 6, 7, 8, 9, 10, 11, 12] rfl
    have hDc := hD.sub (ws' := (WX0_copyFrom cI cJ cZ cB a_o_copy a_o_copy_prices a_o_copy_free a_o_copy_sizes a_o_copy_limits a_o_copy_places a_o_copy_paid a_o_copy_queue a_o_now a_o_now_prices a_o_now_free a_o_now_sizes a_o_now_limits a_o_now_places a_o_now_paid a_o_now_queue v_o_copy_asked v_o_copy_waiting v_o_copy_fee v_o_copy_takings d_o_copy_prices d_o_copy_free d_o_copy_sizes d_o_copy_limits d_o_copy_places d_o_copy_paid d_o_copy_queue v_o_now_asked v_o_now_waiting v_o_now_fee v_o_now_takings d_o_now_prices d_o_now_free d_o_now_sizes d_o_now_limits d_o_now_places d_o_now_paid d_o_now_queue)) [13, 14, 15, 16, 17, 18, 19, 20, 5, 6, 7, 8, 9, 10, 11, 12] (by decide) rfl
    refine cl_rwv (wr := [(a_o, .inr (8, [.ref a_o_text, .ref a_o_sketch, .ref a_o_plan, .ref a_o_now, .ref a_o_copy, .ref a_o_past, .ref a_o_slots, .ref a_o_sights, .ref a_o_finder, .ref a_o_odds, .long v_o_seed])), (a_o_plan, .inr (4, [.ref a_o_plan_prices, .ref a_o_plan_seats, .ref a_o_plan_joined, .ref a_o_plan_views, .int v_o_plan_rows, .int v_o_plan_awaited])), (a_o_plan_seats, .inl (cI, (4, .inl d_o_plan_seats))), (a_o_plan_joined, .inl (cI, (4, .inl d_o_plan_joined))), (a_o_plan_views, .inl (cI, (36, .inl d_o_plan_views))), (a_o_finder, .inr (1, [.int v_o_finder_places, .int v_o_finder_place, .int v_o_finder_quality, .int v_o_finder_price]))]) (wsN := (WX8_room cI cJ cZ cB a_o a_o_text a_o_sketch a_o_plan a_o_now a_o_copy a_o_past a_o_slots a_o_sights a_o_finder a_o_odds a_o_plan_prices a_o_plan_seats a_o_plan_joined a_o_plan_views a_o_now_prices a_o_now_free a_o_now_sizes a_o_now_limits a_o_now_places a_o_now_paid a_o_now_queue a_o_copy_prices a_o_copy_free a_o_copy_sizes a_o_copy_limits a_o_copy_places a_o_copy_paid a_o_copy_queue v_o_seed v_o_plan_rows v_o_plan_awaited d_o_plan_seats d_o_plan_joined d_o_plan_views v_o_now_asked v_o_now_waiting v_o_now_fee v_o_now_takings d_o_now_prices d_o_now_free d_o_now_sizes d_o_now_limits d_o_now_places d_o_now_paid d_o_now_queue q3.1 q3.2.1 q3.2.2.1 q3.2.2.2.1 q3.2.2.2.2.1 q3.2.2.2.2.2.1 q3.2.2.2.2.2.2.1 q3.2.2.2.2.2.2.2.1 q3.2.2.2.2.2.2.2.2.1 q3.2.2.2.2.2.2.2.2.2.1 q3.2.2.2.2.2.2.2.2.2.2 v_o_finder_places v_o_finder_place v_o_finder_quality v_o_finder_price)) (va_runV (As := [.ref a_o_now]) (rest := []) ⟨hx, hb, hml, hown, hts⟩ ((kX0_copyFrom l D cI cJ cZ cB a_o_copy a_o_copy_prices a_o_copy_free a_o_copy_sizes a_o_copy_limits a_o_copy_places a_o_copy_paid a_o_copy_queue a_o_now a_o_now_prices a_o_now_free a_o_now_sizes a_o_now_limits a_o_now_places a_o_now_paid a_o_now_queue v_o_copy_asked v_o_copy_waiting v_o_copy_fee v_o_copy_takings d_o_copy_prices d_o_copy_free d_o_copy_sizes d_o_copy_limits d_o_copy_places d_o_copy_paid d_o_copy_queue v_o_now_asked v_o_now_waiting v_o_now_fee v_o_now_takings d_o_now_prices d_o_now_free d_o_now_sizes d_o_now_limits d_o_now_places d_o_now_paid d_o_now_queue q3 hq4) _) (cwV 1 hts gX8_room_X0_copyFrom rfl rfl rfl (by decide +kernel) ⟨Nat.le_of_ble_eq_true rfl, Nat.le_of_ble_eq_true rfl⟩) ⟨PRw.blind, va_recv hK.1 hPc (ci := 0) (q0 := 0) rfl rfl, PRw.at hK hPc hDc⟩ rfl rfl hl.1 rfl (lv_room (Nat.le_of_ble_eq_true rfl)) dX8_room_18 ⟨Nat.zero_le _, Nat.zero_le _⟩) hP hD hS hA [13, 14, 15, 16, 17, 18, 19, 20, 5, 6, 7, 8, 9, 10, 11, 12] [0, 1, 2, 3, 4, 21] [0, 1, 2, 3, 4, 14, 15, 16, 17, 18, 19, 20, 21, 6, 7, 8, 9, 10, 11, 12, 13, 5] rfl rfl (by decide) (by decide) rfl (by decide) (fun H locs hP hD hS => ?_)
    refine lv_iconst (v := (0 : Int32)) hx hb dX8_room_21 (by decide) ?_
    refine lv_istore_n (lv' := [(2, .int (0 : Int32)), (0, .ref a_o), (1, .int x1)]) hx hb dX8_room_22 rfl hl (by decide) rfl (fun ls hl => ?_)
    exact tX8_room_23 C hK hA  FU v_o_seed v_o_plan_rows v_o_plan_awaited d_o_plan_seats d_o_plan_joined d_o_plan_views v_o_now_asked v_o_now_waiting v_o_now_fee v_o_now_takings d_o_now_prices d_o_now_free d_o_now_sizes d_o_now_limits d_o_now_places d_o_now_paid d_o_now_queue q3.1 q3.2.1 q3.2.2.1 q3.2.2.2.1 q3.2.2.2.2.1 q3.2.2.2.2.2.1 q3.2.2.2.2.2.2.1 q3.2.2.2.2.2.2.2.1 q3.2.2.2.2.2.2.2.2.1 q3.2.2.2.2.2.2.2.2.2.1 q3.2.2.2.2.2.2.2.2.2.2 v_o_finder_places v_o_finder_place v_o_finder_quality v_o_finder_price x1 (0 : Int32) _ _ ls _ hP hD hS (lv_sub hl [1, 2, 0] rfl) hf
  · have hf := pf_t hc hf
    refine lv_bipush (v := (-2 : Int32)) hx hb dX8_room_7 (by decide) ?_
    cases hf
    exact W.iret (v := (-2 : Int32)) hx hb hr (fun t ht hW => ⟨⟨rfl, by rw [ht]; exact hP, hD⟩, hS.F ht⟩) hS.2.2 dX8_room_9
abbrev WX8_waits (cI cJ cZ cB : ClassId) (a_o : Nat) (a_o_text : Nat) (a_o_sketch : Nat) (a_o_plan : Nat) (a_o_now : Nat) (a_o_copy : Nat) (a_o_past : Nat) (a_o_slots : Nat) (a_o_sights : Nat) (a_o_finder : Nat) (a_o_odds : Nat) (a_o_now_prices : Nat) (a_o_now_free : Nat) (a_o_now_sizes : Nat) (a_o_now_limits : Nat) (a_o_now_places : Nat) (a_o_now_paid : Nat) (a_o_now_queue : Nat) (v_o_seed : Int64) (v_o_now_asked : Int32) (v_o_now_waiting : Int32) (v_o_now_fee : Int32) (v_o_now_takings : Int32) (d_o_now_queue : (Nat → Int32)) : va_W := [(a_o, .inr (8, [.ref a_o_text, .ref a_o_sketch, .ref a_o_plan, .ref a_o_now, .ref a_o_copy, .ref a_o_past, .ref a_o_slots, .ref a_o_sights, .ref a_o_finder, .ref a_o_odds, .long v_o_seed])), (a_o_now, .inr (0, [.ref a_o_now_prices, .ref a_o_now_free, .ref a_o_now_sizes, .ref a_o_now_limits, .ref a_o_now_places, .ref a_o_now_paid, .ref a_o_now_queue, .int v_o_now_asked, .int v_o_now_waiting, .int v_o_now_fee, .int v_o_now_takings])), (a_o_now_queue, .inl (cI, (5, .inl d_o_now_queue)))]
set_option maxRecDepth 20000 in
theorem iX8_waits_X8 : ∀ w ∈ wsX80, w ∈ wsX8_waits := by decide +kernel
def fX8_waits (v_o_now_waiting : Int32) (d_o_now_queue : (Nat → Int32)) (x1 : Int32) : Option (Int32) := ((fX0_waitingAt v_o_now_waiting d_o_now_queue x1).bind fun q1 => some q1)
set_option maxRecDepth 100000 in
set_option maxHeartbeats 4000000 in
theorem kX8_waits (l : Launch) (D : va_G) (cI cJ cZ cB : ClassId) (a_o : Nat) (a_o_text : Nat) (a_o_sketch : Nat) (a_o_plan : Nat) (a_o_now : Nat) (a_o_copy : Nat) (a_o_past : Nat) (a_o_slots : Nat) (a_o_sights : Nat) (a_o_finder : Nat) (a_o_odds : Nat) (a_o_now_prices : Nat) (a_o_now_free : Nat) (a_o_now_sizes : Nat) (a_o_now_limits : Nat) (a_o_now_places : Nat) (a_o_now_paid : Nat) (a_o_now_queue : Nat) (v_o_seed : Int64) (v_o_now_asked : Int32) (v_o_now_waiting : Int32) (v_o_now_fee : Int32) (v_o_now_takings : Int32) (d_o_now_queue : (Nat → Int32)) (x1 : Int32) (res : Int32) (hf : fX8_waits v_o_now_waiting d_o_now_queue x1 = some res) : Ro l yX8_waits wsX8_waits ({ frames := 1, cells := 0, slots := 0, locals := 21 } : Room) D (tyL cI cJ cZ cB) [.ref a_o, .int x1] (WX8_waits cI cJ cZ cB a_o a_o_text a_o_sketch a_o_plan a_o_now a_o_copy a_o_past a_o_slots a_o_sights a_o_finder a_o_odds a_o_now_prices a_o_now_free a_o_now_sizes a_o_now_limits a_o_now_places a_o_now_paid a_o_now_queue v_o_seed v_o_now_asked v_o_now_waiting v_o_now_fee v_o_now_takings d_o_now_queue) (some (.int res)) := by
  refine Ro.of (cc := cX8_waits) (maxL := 2) (ret := (some .int)) (own := RX8) (by decide) rfl rfl (Nat.le_of_ble_eq_true rfl) ?_
  intro p e s m below meth c ls C hK hP hl
  obtain ⟨hx, hb, hr, hml, hts, hown, hlk⟩ := id C
  have hl : lv_has ls 2 [(0, .ref a_o), (1, .int x1)] := hl
  unfold fX8_waits at hf
  refine lv_aload_n hx hb dX8_waits_0 rfl (lv_at hl 0 rfl) ?_
  refine va_get (D := D) (ci := 8) (v := .ref a_o_now) (C := RX8) (T := TX8) (N := 11) hx hb hts iX8_waits_X8 hown hK.1 hP 0 rfl rfl 3 (by decide) (hts (.fieldLink RX8 29 "LoneSeats" "now" "LLoneSeats$Bookings;") (by decide +kernel)) (fun _ h9 => h9) rfl dX8_waits_1 ?_
  refine lv_iload_n hx hb dX8_waits_4 rfl (lv_at hl 1 rfl) ?_
  obtain ⟨q1, hq2, hf⟩ := pf_b hf
  have hPc := hP.sub (ws' := (WX0_waitingAt cI cJ cZ cB a_o_now a_o_now_prices a_o_now_free a_o_now_sizes a_o_now_limits a_o_now_places a_o_now_paid a_o_now_queue v_o_now_asked v_o_now_waiting v_o_now_fee v_o_now_takings d_o_now_queue)) [1, 2] rfl
  refine cl_roi (va_runV (As := [.int x1]) (rest := []) ⟨hx, hb, hml, hown, hts⟩ (kX0_waitingAt l D cI cJ cZ cB a_o_now a_o_now_prices a_o_now_free a_o_now_sizes a_o_now_limits a_o_now_places a_o_now_paid a_o_now_queue v_o_now_asked v_o_now_waiting v_o_now_fee v_o_now_takings d_o_now_queue x1 q1 hq2) (cwV 1 hts gX8_waits_X0_waitingAt rfl rfl rfl (by decide +kernel) ⟨Nat.le_of_ble_eq_true rfl, Nat.le_of_ble_eq_true rfl⟩) ⟨PRo.blind, va_recv hK.1 hPc (ci := 0) (q0 := 0) rfl rfl, PRo.at hK hPc⟩ rfl rfl hl.1 rfl (lv_room (Nat.le_of_ble_eq_true rfl)) dX8_waits_5 ⟨Nat.zero_le _, Nat.zero_le _⟩) ?_
  cases hf
  exact W.iret (v := q1) hx hb hr (fun t ht hW => ⟨rfl, ht⟩) (fun _ h => absurd h List.not_mem_nil) dX8_waits_8
abbrev WX8_asksAndSits (cI cJ cZ cB : ClassId) (a_o : Nat) (a_o_text : Nat) (a_o_sketch : Nat) (a_o_plan : Nat) (a_o_now : Nat) (a_o_copy : Nat) (a_o_past : Nat) (a_o_slots : Nat) (a_o_sights : Nat) (a_o_finder : Nat) (a_o_odds : Nat) (a_o_plan_prices : Nat) (a_o_plan_seats : Nat) (a_o_plan_joined : Nat) (a_o_plan_views : Nat) (a_o_copy_prices : Nat) (a_o_copy_free : Nat) (a_o_copy_sizes : Nat) (a_o_copy_limits : Nat) (a_o_copy_places : Nat) (a_o_copy_paid : Nat) (a_o_copy_queue : Nat) (v_o_seed : Int64) (v_o_plan_rows : Int32) (v_o_plan_awaited : Int32) (d_o_plan_seats : (Nat → Int32)) (d_o_plan_joined : (Nat → Int32)) (d_o_plan_views : (Nat → Int32)) (v_o_copy_asked : Int32) (v_o_copy_waiting : Int32) (v_o_copy_fee : Int32) (v_o_copy_takings : Int32) (d_o_copy_prices : (Nat → Int32)) (d_o_copy_free : (Nat → Int32)) (d_o_copy_sizes : (Nat → Int32)) (d_o_copy_limits : (Nat → Int32)) (d_o_copy_places : (Nat → Int32)) (d_o_copy_paid : (Nat → Int32)) (d_o_copy_queue : (Nat → Int32)) (v_o_finder_places : Int32) (v_o_finder_place : Int32) (v_o_finder_quality : Int32) (v_o_finder_price : Int32) : va_W := [(a_o, .inr (8, [.ref a_o_text, .ref a_o_sketch, .ref a_o_plan, .ref a_o_now, .ref a_o_copy, .ref a_o_past, .ref a_o_slots, .ref a_o_sights, .ref a_o_finder, .ref a_o_odds, .long v_o_seed])), (a_o_plan, .inr (4, [.ref a_o_plan_prices, .ref a_o_plan_seats, .ref a_o_plan_joined, .ref a_o_plan_views, .int v_o_plan_rows, .int v_o_plan_awaited])), (a_o_plan_seats, .inl (cI, (4, .inl d_o_plan_seats))), (a_o_plan_joined, .inl (cI, (4, .inl d_o_plan_joined))), (a_o_plan_views, .inl (cI, (36, .inl d_o_plan_views))), (a_o_copy, .inr (0, [.ref a_o_copy_prices, .ref a_o_copy_free, .ref a_o_copy_sizes, .ref a_o_copy_limits, .ref a_o_copy_places, .ref a_o_copy_paid, .ref a_o_copy_queue, .int v_o_copy_asked, .int v_o_copy_waiting, .int v_o_copy_fee, .int v_o_copy_takings])), (a_o_copy_prices, .inl (cI, (4, .inl d_o_copy_prices))), (a_o_copy_free, .inl (cI, (4, .inl d_o_copy_free))), (a_o_copy_sizes, .inl (cI, (31, .inl d_o_copy_sizes))), (a_o_copy_limits, .inl (cI, (31, .inl d_o_copy_limits))), (a_o_copy_places, .inl (cI, (31, .inl d_o_copy_places))), (a_o_copy_paid, .inl (cI, (31, .inl d_o_copy_paid))), (a_o_copy_queue, .inl (cI, (5, .inl d_o_copy_queue))), (a_o_finder, .inr (1, [.int v_o_finder_places, .int v_o_finder_place, .int v_o_finder_quality, .int v_o_finder_price]))]
set_option maxRecDepth 20000 in
theorem iX8_asksAndSits_X8 : ∀ w ∈ wsX80, w ∈ wsX8_asksAndSits := by decide +kernel
def fX8_asksAndSits (v_o_plan_rows : Int32) (d_o_plan_seats : (Nat → Int32)) (d_o_plan_joined : (Nat → Int32)) (d_o_plan_views : (Nat → Int32)) (v_o_copy_asked : Int32) (v_o_copy_waiting : Int32) (v_o_copy_takings : Int32) (d_o_copy_prices : (Nat → Int32)) (d_o_copy_free : (Nat → Int32)) (d_o_copy_sizes : (Nat → Int32)) (d_o_copy_limits : (Nat → Int32)) (d_o_copy_places : (Nat → Int32)) (d_o_copy_paid : (Nat → Int32)) (d_o_copy_queue : (Nat → Int32)) (v_o_finder_places : Int32) (v_o_finder_place : Int32) (v_o_finder_quality : Int32) (v_o_finder_price : Int32) (x1 : Int32) (x2 : Int32) : Option (Int32 × Int32 × Int32 × Int32 × (Nat → Int32) × (Nat → Int32) × (Nat → Int32) × (Nat → Int32) × (Nat → Int32) × (Nat → Int32) × Int32 × Int32 × Int32 × Int32) := ((fX8_isSize x1).bind fun q1 => (if q1 = 0 then some ((0 : Int32), v_o_copy_asked, v_o_copy_waiting, v_o_copy_takings, d_o_copy_free, d_o_copy_sizes, d_o_copy_limits, d_o_copy_places, d_o_copy_paid, d_o_copy_queue, v_o_finder_places, v_o_finder_place, v_o_finder_quality, v_o_finder_price) else ((fX8_isPrice x2).bind fun q3 => (if q3 = 0 then some ((0 : Int32), v_o_copy_asked, v_o_copy_waiting, v_o_copy_takings, d_o_copy_free, d_o_copy_sizes, d_o_copy_limits, d_o_copy_places, d_o_copy_paid, d_o_copy_queue, v_o_finder_places, v_o_finder_place, v_o_finder_quality, v_o_finder_price) else ((fX1_look v_o_finder_places v_o_finder_place v_o_finder_quality v_o_finder_price v_o_plan_rows d_o_plan_seats d_o_plan_joined d_o_plan_views d_o_copy_prices d_o_copy_free x1 x2 (0 : Int32) (15 : Int32)).bind fun q5 => (if q5.1 = (-9 : Int32) then some ((0 : Int32), v_o_copy_asked, v_o_copy_waiting, v_o_copy_takings, d_o_copy_free, d_o_copy_sizes, d_o_copy_limits, d_o_copy_places, d_o_copy_paid, d_o_copy_queue, q5.2.1, q5.2.2.1, q5.2.2.2.1, q5.2.2.2.2) else ((fX0_isFullFor v_o_copy_asked v_o_copy_waiting q5.1).bind fun q7 => (if q7 = 0 then ((fX0_admit v_o_copy_asked v_o_copy_waiting v_o_copy_takings d_o_copy_prices d_o_copy_free d_o_copy_sizes d_o_copy_limits d_o_copy_places d_o_copy_paid d_o_copy_queue x1 x2 q5.1).bind fun q9 => some ((1 : Int32), q9.2.1, q9.2.2.1, q9.2.2.2.1, q9.2.2.2.2.1, q9.2.2.2.2.2.1, q9.2.2.2.2.2.2.1, q9.2.2.2.2.2.2.2.1, q9.2.2.2.2.2.2.2.2.1, q9.2.2.2.2.2.2.2.2.2, q5.2.1, q5.2.2.1, q5.2.2.2.1, q5.2.2.2.2)) else some ((0 : Int32), v_o_copy_asked, v_o_copy_waiting, v_o_copy_takings, d_o_copy_free, d_o_copy_sizes, d_o_copy_limits, d_o_copy_places, d_o_copy_paid, d_o_copy_queue, q5.2.1, q5.2.2.1, q5.2.2.2.1, q5.2.2.2.2)))))))))
set_option maxRecDepth 100000 in
set_option maxHeartbeats 4000000 in
theorem kX8_asksAndSits (l : Launch) (D : va_G) (cI cJ cZ cB : ClassId) (a_o : Nat) (a_o_text : Nat) (a_o_sketch : Nat) (a_o_plan : Nat) (a_o_now : Nat) (a_o_copy : Nat) (a_o_past : Nat) (a_o_slots : Nat) (a_o_sights : Nat) (a_o_finder : Nat) (a_o_odds : Nat) (a_o_plan_prices : Nat) (a_o_plan_seats : Nat) (a_o_plan_joined : Nat) (a_o_plan_views : Nat) (a_o_copy_prices : Nat) (a_o_copy_free : Nat) (a_o_copy_sizes : Nat) (a_o_copy_limits : Nat) (a_o_copy_places : Nat) (a_o_copy_paid : Nat) (a_o_copy_queue : Nat) (v_o_seed : Int64) (v_o_plan_rows : Int32) (v_o_plan_awaited : Int32) (d_o_plan_seats : (Nat → Int32)) (d_o_plan_joined : (Nat → Int32)) (d_o_plan_views : (Nat → Int32)) (v_o_copy_asked : Int32) (v_o_copy_waiting : Int32) (v_o_copy_fee : Int32) (v_o_copy_takings : Int32) (d_o_copy_prices : (Nat → Int32)) (d_o_copy_free : (Nat → Int32)) (d_o_copy_sizes : (Nat → Int32)) (d_o_copy_limits : (Nat → Int32)) (d_o_copy_places : (Nat → Int32)) (d_o_copy_paid : (Nat → Int32)) (d_o_copy_queue : (Nat → Int32)) (v_o_finder_places : Int32) (v_o_finder_place : Int32) (v_o_finder_quality : Int32) (v_o_finder_price : Int32) (x1 : Int32) (x2 : Int32) (res : Int32 × Int32 × Int32 × Int32 × (Nat → Int32) × (Nat → Int32) × (Nat → Int32) × (Nat → Int32) × (Nat → Int32) × (Nat → Int32) × Int32 × Int32 × Int32 × Int32) (hf : fX8_asksAndSits v_o_plan_rows d_o_plan_seats d_o_plan_joined d_o_plan_views v_o_copy_asked v_o_copy_waiting v_o_copy_takings d_o_copy_prices d_o_copy_free d_o_copy_sizes d_o_copy_limits d_o_copy_places d_o_copy_paid d_o_copy_queue v_o_finder_places v_o_finder_place v_o_finder_quality v_o_finder_price x1 x2 = some res) : Rw l yX8_asksAndSits wsX8_asksAndSits ({ frames := 4, cells := 0, slots := 0, locals := 102 } : Room) D (tyL cI cJ cZ cB) [.ref a_o, .int x1, .int x2] (WX8_asksAndSits cI cJ cZ cB a_o a_o_text a_o_sketch a_o_plan a_o_now a_o_copy a_o_past a_o_slots a_o_sights a_o_finder a_o_odds a_o_plan_prices a_o_plan_seats a_o_plan_joined a_o_plan_views a_o_copy_prices a_o_copy_free a_o_copy_sizes a_o_copy_limits a_o_copy_places a_o_copy_paid a_o_copy_queue v_o_seed v_o_plan_rows v_o_plan_awaited d_o_plan_seats d_o_plan_joined d_o_plan_views v_o_copy_asked v_o_copy_waiting v_o_copy_fee v_o_copy_takings d_o_copy_prices d_o_copy_free d_o_copy_sizes d_o_copy_limits d_o_copy_places d_o_copy_paid d_o_copy_queue v_o_finder_places v_o_finder_place v_o_finder_quality v_o_finder_price) (some (.int res.1)) (WX8_asksAndSits cI cJ cZ cB a_o a_o_text a_o_sketch a_o_plan a_o_now a_o_copy a_o_past a_o_slots a_o_sights a_o_finder a_o_odds a_o_plan_prices a_o_plan_seats a_o_plan_joined a_o_plan_views a_o_copy_prices a_o_copy_free a_o_copy_sizes a_o_copy_limits a_o_copy_places a_o_copy_paid a_o_copy_queue v_o_seed v_o_plan_rows v_o_plan_awaited d_o_plan_seats d_o_plan_joined d_o_plan_views res.2.1 res.2.2.1 v_o_copy_fee res.2.2.2.1 d_o_copy_prices res.2.2.2.2.1 res.2.2.2.2.2.1 res.2.2.2.2.2.2.1 res.2.2.2.2.2.2.2.1 res.2.2.2.2.2.2.2.2.1 res.2.2.2.2.2.2.2.2.2.1 res.2.2.2.2.2.2.2.2.2.2.1 res.2.2.2.2.2.2.2.2.2.2.2.1 res.2.2.2.2.2.2.2.2.2.2.2.2.1 res.2.2.2.2.2.2.2.2.2.2.2.2.2) := by
  refine Rw.of (cc := cX8_asksAndSits) (maxL := 4) (ret := (some .boolean)) (own := RX8) (by decide) rfl rfl (Nat.le_of_ble_eq_true rfl) ?_
  intro p e s m below meth c A ls C hK hA hP hD hS hl
  obtain ⟨hx, hb, hr, hml, hts, hown, hlk⟩ := id C
  have hl : lv_has ls 4 [(0, .ref a_o), (1, .int x1), (2, .int x2)] := hl
  unfold fX8_asksAndSits at hf
  refine lv_iload_n hx hb dX8_asksAndSits_0 rfl (lv_at hl 1 rfl) ?_
  obtain ⟨q1, hq2, hf⟩ := pf_b hf
  have hPc := hP.sub (ws' := ([] : va_W)) [] rfl
  refine cl_roi (va_runS (As := [.int x1]) (rest := []) ⟨hx, hb, hml, hown, hts⟩ (kX8_isSize l D cI cJ cZ cB x1 q1 hq2) (va_cwS 1 hts gX8_asksAndSits_X8_isSize rfl rfl rfl (by decide +kernel) ⟨Nat.le_of_ble_eq_true rfl, Nat.le_of_ble_eq_true rfl⟩) ⟨PRo.blind, PRo.at hK hPc⟩ rfl rfl hl.1 rfl (lv_room (Nat.le_of_ble_eq_true rfl)) dX8_asksAndSits_1 ⟨Nat.zero_le _, Nat.zero_le _⟩) ?_
  refine lv_if_eq (tgt := 14) hx hb dX8_asksAndSits_4 (by decide) (fun hc => ?_) (fun hc => ?_)
  · have hf := pf_t hc hf
    refine lv_iconst (v := (0 : Int32)) hx hb dX8_asksAndSits_14 (by decide) ?_
    cases hf
    exact W.zret (v := (0 : Int32)) hx hb hr (nar_b (by decide)) (fun t ht hW => ⟨⟨rfl, by rw [ht]; exact hP, hD⟩, hS.F ht⟩) hS.2.2 dX8_asksAndSits_15
  · have hf := pf_f hc hf
    refine lv_iload_n hx hb dX8_asksAndSits_7 rfl (lv_at hl 2 rfl) ?_
    obtain ⟨q3, hq4, hf⟩ := pf_b hf
    have hPc := hP.sub (ws' := ([] : va_W)) [] rfl
    refine cl_roi (va_runS (As := [.int x2]) (rest := []) ⟨hx, hb, hml, hown, hts⟩ (kX8_isPrice l D cI cJ cZ cB x2 q3 hq4) (va_cwS 1 hts gX8_asksAndSits_X8_isPrice rfl rfl rfl (by decide +kernel) ⟨Nat.le_of_ble_eq_true rfl, Nat.le_of_ble_eq_true rfl⟩) ⟨PRo.blind, PRo.at hK hPc⟩ rfl rfl hl.1 rfl (lv_room (Nat.le_of_ble_eq_true rfl)) dX8_asksAndSits_8 ⟨Nat.zero_le _, Nat.zero_le _⟩) ?_
    refine lv_if_ne (tgt := 16) hx hb dX8_asksAndSits_11 (by decide) (fun hc => ?_) (fun hc => ?_)
    · have hf := pf_f hc hf
      refine lv_aload_n hx hb dX8_asksAndSits_16 rfl (lv_at hl 0 rfl) ?_
      refine va_get (D := D) (ci := 8) (v := .ref a_o_finder) (C := RX8) (T := TX8) (N := 11) hx hb hts iX8_asksAndSits_X8 hown hK.1 hP 0 rfl rfl 8 (by decide) (hts (.fieldLink RX8 60 "LoneSeats" "finder" "LLoneSeats$Finder;") (by decide +kernel)) (fun _ h9 => h9) rfl dX8_asksAndSits_17 ?_
      refine lv_aload_n hx hb dX8_asksAndSits_20 rfl (lv_at hl 0 rfl) ?_
      refine va_get (D := D) (ci := 8) (v := .ref a_o_plan) (C := RX8) (T := TX8) (N := 11) hx hb hts iX8_asksAndSits_X8 hown hK.1 hP 0 rfl rfl 2 (by decide) (hts (.fieldLink RX8 23 "LoneSeats" "plan" "LLoneSeats$Plan;") (by decide +kernel)) (fun _ h9 => h9) rfl dX8_asksAndSits_21 ?_
      refine lv_aload_n hx hb dX8_asksAndSits_24 rfl (lv_at hl 0 rfl) ?_
      refine va_get (D := D) (ci := 8) (v := .ref a_o_copy) (C := RX8) (T := TX8) (N := 11) hx hb hts iX8_asksAndSits_X8 hown hK.1 hP 0 rfl rfl 4 (by decide) (hts (.fieldLink RX8 33 "LoneSeats" "copy" "LLoneSeats$Bookings;") (by decide +kernel)) (fun _ h9 => h9) rfl dX8_asksAndSits_25 ?_
      refine lv_iload_n hx hb dX8_asksAndSits_28 rfl (lv_at hl 1 rfl) ?_
      refine lv_iload_n hx hb dX8_asksAndSits_29 rfl (lv_at hl 2 rfl) ?_
      refine lv_iconst (v := (0 : Int32)) hx hb dX8_asksAndSits_30 (by decide) ?_
      refine lv_bipush (v := (15 : Int32)) hx hb dX8_asksAndSits_31 (by decide) ?_
      obtain ⟨q5, hq6, hf⟩ := pf_b hf
      have hPc := hP.sub (ws' := (WX1_look cI cJ cZ cB a_o_finder a_o_plan a_o_plan_prices a_o_plan_seats a_o_plan_joined a_o_plan_views a_o_copy a_o_copy_prices a_o_copy_free a_o_copy_sizes a_o_copy_limits a_o_copy_places a_o_copy_paid a_o_copy_queue v_o_finder_places v_o_finder_place v_o_finder_quality v_o_finder_price v_o_plan_rows v_o_plan_awaited d_o_plan_seats d_o_plan_joined d_o_plan_views v_o_copy_asked v_o_copy_waiting v_o_copy_fee v_o_copy_takings d_o_copy_prices d_o_copy_free)) [13, 1, 2, 3, 4, 5, 6, 7] rfl
      have hDc := hD.sub (ws' := (WX1_look cI cJ cZ cB a_o_finder a_o_plan a_o_plan_prices a_o_plan_seats a_o_plan_joined a_o_plan_views a_o_copy a_o_copy_prices a_o_copy_free a_o_copy_sizes a_o_copy_limits a_o_copy_places a_o_copy_paid a_o_copy_queue v_o_finder_places v_o_finder_place v_o_finder_quality v_o_finder_price v_o_plan_rows v_o_plan_awaited d_o_plan_seats d_o_plan_joined d_o_plan_views v_o_copy_asked v_o_copy_waiting v_o_copy_fee v_o_copy_takings d_o_copy_prices d_o_copy_free)) [13, 1, 2, 3, 4, 5, 6, 7] (by decide) rfl
      refine cl_rwi (wr := [(a_o, .inr (8, [.ref a_o_text, .ref a_o_sketch, .ref a_o_plan, .ref a_o_now, .ref a_o_copy, .ref a_o_past, .ref a_o_slots, .ref a_o_sights, .ref a_o_finder, .ref a_o_odds, .long v_o_seed])), (a_o_copy_sizes, .inl (cI, (31, .inl d_o_copy_sizes))), (a_o_copy_limits, .inl (cI, (31, .inl d_o_copy_limits))), (a_o_copy_places, .inl (cI, (31, .inl d_o_copy_places))), (a_o_copy_paid, .inl (cI, (31, .inl d_o_copy_paid))), (a_o_copy_queue, .inl (cI, (5, .inl d_o_copy_queue)))]) (wsN := (WX8_asksAndSits cI cJ cZ cB a_o a_o_text a_o_sketch a_o_plan a_o_now a_o_copy a_o_past a_o_slots a_o_sights a_o_finder a_o_odds a_o_plan_prices a_o_plan_seats a_o_plan_joined a_o_plan_views a_o_copy_prices a_o_copy_free a_o_copy_sizes a_o_copy_limits a_o_copy_places a_o_copy_paid a_o_copy_queue v_o_seed v_o_plan_rows v_o_plan_awaited d_o_plan_seats d_o_plan_joined d_o_plan_views v_o_copy_asked v_o_copy_waiting v_o_copy_fee v_o_copy_takings d_o_copy_prices d_o_copy_free d_o_copy_sizes d_o_copy_limits d_o_copy_places d_o_copy_paid d_o_copy_queue q5.2.1 q5.2.2.1 q5.2.2.2.1 q5.2.2.2.2)) (va_runV (As := [.ref a_o_plan, .ref a_o_copy, .int x1, .int x2, .int (0 : Int32), .int (15 : Int32)]) (rest := []) ⟨hx, hb, hml, hown, hts⟩ ((kX1_look l D cI cJ cZ cB a_o_finder a_o_plan a_o_plan_prices a_o_plan_seats a_o_plan_joined a_o_plan_views a_o_copy a_o_copy_prices a_o_copy_free a_o_copy_sizes a_o_copy_limits a_o_copy_places a_o_copy_paid a_o_copy_queue v_o_finder_places v_o_finder_place v_o_finder_quality v_o_finder_price v_o_plan_rows v_o_plan_awaited d_o_plan_seats d_o_plan_joined d_o_plan_views v_o_copy_asked v_o_copy_waiting v_o_copy_fee v_o_copy_takings d_o_copy_prices d_o_copy_free x1 x2 (0 : Int32) (15 : Int32) q5 hq6) _) (cwV 6 hts gX8_asksAndSits_X1_look rfl rfl rfl (by decide +kernel) ⟨Nat.le_of_ble_eq_true rfl, Nat.le_of_ble_eq_true rfl⟩) ⟨PRw.blind, va_recv hK.1 hPc (ci := 1) (q0 := 0) rfl rfl, PRw.at hK hPc hDc⟩ rfl rfl hl.1 rfl (lv_room (Nat.le_of_ble_eq_true rfl)) dX8_asksAndSits_33 ⟨Nat.zero_le _, Nat.zero_le _⟩) hP hD hS hA [13, 1, 2, 3, 4, 5, 6, 7] [0, 8, 9, 10, 11, 12] [0, 7, 8, 9, 10, 11, 12, 13, 1, 2, 3, 4, 5, 6] rfl rfl (by decide) (by decide) rfl (by decide) (fun H locs hP hD hS => ?_)
      refine lv_istore_n (lv' := [(3, .int q5.1), (0, .ref a_o), (1, .int x1), (2, .int x2)]) hx hb dX8_asksAndSits_36 rfl hl (by decide) rfl (fun ls hl => ?_)
      refine lv_iload_n hx hb dX8_asksAndSits_37 rfl (lv_at hl 0 rfl) ?_
      refine lv_bipush (v := (-9 : Int32)) hx hb dX8_asksAndSits_38 (by decide) ?_
      refine lv_icmp_eq (tgt := 54) hx hb dX8_asksAndSits_40 (by decide) (fun hc => ?_) (fun hc => ?_)
      · have hf := pf_t hc hf
        refine lv_iconst (v := (0 : Int32)) hx hb dX8_asksAndSits_54 (by decide) ?_
        cases hf
        exact W.zret (v := (0 : Int32)) hx hb hr (nar_b (by decide)) (fun t ht hW => ⟨⟨rfl, by rw [ht]; exact hP, hD⟩, hS.F ht⟩) hS.2.2 dX8_asksAndSits_55
      · have hf := pf_f hc hf
        refine lv_aload_n hx hb dX8_asksAndSits_43 rfl (lv_at hl 1 rfl) ?_
        refine va_get (D := D) (ci := 8) (v := .ref a_o_copy) (C := RX8) (T := TX8) (N := 11) hx hb hts iX8_asksAndSits_X8 hown hK.1 hP 0 rfl rfl 4 (by decide) (hts (.fieldLink RX8 33 "LoneSeats" "copy" "LLoneSeats$Bookings;") (by decide +kernel)) (fun _ h9 => h9) rfl dX8_asksAndSits_44 ?_
        refine lv_iload_n hx hb dX8_asksAndSits_47 rfl (lv_at hl 0 rfl) ?_
        obtain ⟨q7, hq8, hf⟩ := pf_b hf
        have hPc := hP.sub (ws' := (WX0_isFullFor cI cJ cZ cB a_o_copy a_o_copy_prices a_o_copy_free a_o_copy_sizes a_o_copy_limits a_o_copy_places a_o_copy_paid a_o_copy_queue v_o_copy_asked v_o_copy_waiting v_o_copy_fee v_o_copy_takings)) [5] rfl
        refine cl_roi (va_runV (As := [.int q5.1]) (rest := []) ⟨hx, hb, hml, hown, hts⟩ (kX0_isFullFor l D cI cJ cZ cB a_o_copy a_o_copy_prices a_o_copy_free a_o_copy_sizes a_o_copy_limits a_o_copy_places a_o_copy_paid a_o_copy_queue v_o_copy_asked v_o_copy_waiting v_o_copy_fee v_o_copy_takings q5.1 q7 hq8) (cwV 1 hts gX8_asksAndSits_X0_isFullFor rfl rfl rfl (by decide +kernel) ⟨Nat.le_of_ble_eq_true rfl, Nat.le_of_ble_eq_true rfl⟩) ⟨PRo.blind, va_recv hK.1 hPc (ci := 0) (q0 := 0) rfl rfl, PRo.at hK hPc⟩ rfl rfl hl.1 rfl (lv_room (Nat.le_of_ble_eq_true rfl)) dX8_asksAndSits_48 ⟨Nat.zero_le _, Nat.zero_le _⟩) ?_
        refine lv_if_eq (tgt := 56) hx hb dX8_asksAndSits_51 (by decide) (fun hc => ?_) (fun hc => ?_)
        · have hf := pf_t hc hf
          refine lv_aload_n hx hb dX8_asksAndSits_56 rfl (lv_at hl 1 rfl) ?_
          refine va_get (D := D) (ci := 8) (v := .ref a_o_copy) (C := RX8) (T := TX8) (N := 11) hx hb hts iX8_asksAndSits_X8 hown hK.1 hP 0 rfl rfl 4 (by decide) (hts (.fieldLink RX8 33 "LoneSeats" "copy" "LLoneSeats$Bookings;") (by decide +kernel)) (fun _ h9 => h9) rfl dX8_asksAndSits_57 ?_
          refine lv_iload_n hx hb dX8_asksAndSits_60 rfl (lv_at hl 2 rfl) ?_
          refine lv_iload_n hx hb dX8_asksAndSits_61 rfl (lv_at hl 3 rfl) ?_
          refine lv_iload_n hx hb dX8_asksAndSits_62 rfl (lv_at hl 0 rfl) ?_
          obtain ⟨q9, hq10, hf⟩ := pf_b hf
          have hPc := hP.sub (ws' := (WX0_admit cI cJ cZ cB a_o_copy a_o_copy_prices a_o_copy_free a_o_copy_sizes a_o_copy_limits a_o_copy_places a_o_copy_paid a_o_copy_queue v_o_copy_asked v_o_copy_waiting v_o_copy_fee v_o_copy_takings d_o_copy_prices d_o_copy_free d_o_copy_sizes d_o_copy_limits d_o_copy_places d_o_copy_paid d_o_copy_queue)) [5, 6, 7, 8, 9, 10, 11, 12] rfl
          have hDc := hD.sub (ws' := (WX0_admit cI cJ cZ cB a_o_copy a_o_copy_prices a_o_copy_free a_o_copy_sizes a_o_copy_limits a_o_copy_places a_o_copy_paid a_o_copy_queue v_o_copy_asked v_o_copy_waiting v_o_copy_fee v_o_copy_takings d_o_copy_prices d_o_copy_free d_o_copy_sizes d_o_copy_limits d_o_copy_places d_o_copy_paid d_o_copy_queue)) [5, 6, 7, 8, 9, 10, 11, 12] (by decide) rfl
          refine cl_rwi (wr := [(a_o, .inr (8, [.ref a_o_text, .ref a_o_sketch, .ref a_o_plan, .ref a_o_now, .ref a_o_copy, .ref a_o_past, .ref a_o_slots, .ref a_o_sights, .ref a_o_finder, .ref a_o_odds, .long v_o_seed])), (a_o_plan, .inr (4, [.ref a_o_plan_prices, .ref a_o_plan_seats, .ref a_o_plan_joined, .ref a_o_plan_views, .int v_o_plan_rows, .int v_o_plan_awaited])), (a_o_plan_seats, .inl (cI, (4, .inl d_o_plan_seats))), (a_o_plan_joined, .inl (cI, (4, .inl d_o_plan_joined))), (a_o_plan_views, .inl (cI, (36, .inl d_o_plan_views))), (a_o_finder, .inr (1, [.int q5.2.1, .int q5.2.2.1, .int q5.2.2.2.1, .int q5.2.2.2.2]))]) (wsN := (WX8_asksAndSits cI cJ cZ cB a_o a_o_text a_o_sketch a_o_plan a_o_now a_o_copy a_o_past a_o_slots a_o_sights a_o_finder a_o_odds a_o_plan_prices a_o_plan_seats a_o_plan_joined a_o_plan_views a_o_copy_prices a_o_copy_free a_o_copy_sizes a_o_copy_limits a_o_copy_places a_o_copy_paid a_o_copy_queue v_o_seed v_o_plan_rows v_o_plan_awaited d_o_plan_seats d_o_plan_joined d_o_plan_views q9.2.1 q9.2.2.1 v_o_copy_fee q9.2.2.2.1 d_o_copy_prices q9.2.2.2.2.1 q9.2.2.2.2.2.1 q9.2.2.2.2.2.2.1 q9.2.2.2.2.2.2.2.1 q9.2.2.2.2.2.2.2.2.1 q9.2.2.2.2.2.2.2.2.2 q5.2.1 q5.2.2.1 q5.2.2.2.1 q5.2.2.2.2)) (va_runV (As := [.int x1, .int x2, .int q5.1]) (rest := []) ⟨hx, hb, hml, hown, hts⟩ ((kX0_admit l D cI cJ cZ cB a_o_copy a_o_copy_prices a_o_copy_free a_o_copy_sizes a_o_copy_limits a_o_copy_places a_o_copy_paid a_o_copy_queue v_o_copy_asked v_o_copy_waiting v_o_copy_fee v_o_copy_takings d_o_copy_prices d_o_copy_free d_o_copy_sizes d_o_copy_limits d_o_copy_places d_o_copy_paid d_o_copy_queue x1 x2 q5.1 q9 hq10) _) (cwV 3 hts gX8_asksAndSits_X0_admit rfl rfl rfl (by decide +kernel) ⟨Nat.le_of_ble_eq_true rfl, Nat.le_of_ble_eq_true rfl⟩) ⟨PRw.blind, va_recv hK.1 hPc (ci := 0) (q0 := 0) rfl rfl, PRw.at hK hPc hDc⟩ rfl rfl hl.1 rfl (lv_room (Nat.le_of_ble_eq_true rfl)) dX8_asksAndSits_63 ⟨Nat.zero_le _, Nat.zero_le _⟩) hP hD hS hA [5, 6, 7, 8, 9, 10, 11, 12] [0, 1, 2, 3, 4, 13] [0, 1, 2, 3, 4, 6, 7, 8, 9, 10, 11, 12, 13, 5] rfl rfl (by decide) (by decide) rfl (by decide) (fun H locs hP hD hS => ?_)
          refine lv_pop hx hb dX8_asksAndSits_66 rfl ?_
          refine lv_iconst (v := (1 : Int32)) hx hb dX8_asksAndSits_67 (by decide) ?_
          cases hf
          exact W.zret (v := (1 : Int32)) hx hb hr (nar_b (by decide)) (fun t ht hW => ⟨⟨rfl, by rw [ht]; exact hP, hD⟩, hS.F ht⟩) hS.2.2 dX8_asksAndSits_68
        · have hf := pf_f hc hf
          refine lv_iconst (v := (0 : Int32)) hx hb dX8_asksAndSits_54 (by decide) ?_
          cases hf
          exact W.zret (v := (0 : Int32)) hx hb hr (nar_b (by decide)) (fun t ht hW => ⟨⟨rfl, by rw [ht]; exact hP, hD⟩, hS.F ht⟩) hS.2.2 dX8_asksAndSits_55
    · have hf := pf_t hc hf
      refine lv_iconst (v := (0 : Int32)) hx hb dX8_asksAndSits_14 (by decide) ?_
      cases hf
      exact W.zret (v := (0 : Int32)) hx hb hr (nar_b (by decide)) (fun t ht hW => ⟨⟨rfl, by rw [ht]; exact hP, hD⟩, hS.F ht⟩) hS.2.2 dX8_asksAndSits_15
