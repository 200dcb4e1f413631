abbrev WX4_hasRow (cI cJ cZ cB : ClassId) (a_o : Nat) (a_o_prices : Nat) (a_o_seats : Nat) (a_o_joined : Nat) (a_o_views : Nat) (v_o_rows : Int32) (v_o_awaited : Int32) : va_W := [(a_o, .inr (4, [.ref a_o_prices, .ref a_o_seats, .ref a_o_joined, .ref a_o_views, .int v_o_rows, .int v_o_awaited]))]
set_option maxRecDepth 20000 in
theorem iX4_hasRow_X4 : ∀ w ∈ wsX40, w ∈ wsX4_hasRow := by decide +kernel
def fX4_hasRow (v_o_rows : Int32) (x1 : Int32) : Option (Int32) := (if x1 < 0 then some (0 : Int32) else (if v_o_rows ≤ x1 then some (0 : Int32) else some (1 : Int32)))
set_option maxRecDepth 100000 in
set_option maxHeartbeats 4000000 in
theorem kX4_hasRow (l : Launch) (D : va_G) (cI cJ cZ cB : ClassId) (a_o : Nat) (a_o_prices : Nat) (a_o_seats : Nat) (a_o_joined : Nat) (a_o_views : Nat) (v_o_rows : Int32) (v_o_awaited : Int32) (x1 : Int32) (res : Int32) (hf : fX4_hasRow v_o_rows x1 = some res) : Ro l yX4_hasRow wsX4_hasRow ({ frames := 0, cells := 0, slots := 0, locals := 0 } : Room) D (tyL cI cJ cZ cB) [.ref a_o, .int x1] (WX4_hasRow cI cJ cZ cB a_o a_o_prices a_o_seats a_o_joined a_o_views v_o_rows v_o_awaited) (some (.int res)) := by
  refine Ro.of (cc := cX4_hasRow) (maxL := 2) (ret := (some .boolean)) (own := RX4) (by decide) rfl rfl (Nat.le_of_ble_eq_true rfl) ?_
  intro p e s m below meth c ls C hK hP hl
  obtain ⟨hx, hb, hr, hml, hts, hown, hlk⟩ := id C
  have hl : lv_has ls 2 [(0, .ref a_o), (1, .int x1)] := hl
  unfold fX4_hasRow at hf
  refine lv_iload_n hx hb dX4_hasRow_0 rfl (lv_at hl 1 rfl) ?_
  refine lv_if_lt (tgt := 16) hx hb dX4_hasRow_1 (by decide) (fun hc => ?_) (fun hc => ?_)
  · have hf := pf_t hc hf
    refine lv_iconst (v := (0 : Int32)) hx hb dX4_hasRow_16 (by decide) ?_
    cases hf
    exact W.zret hx hb hr (nar_b (by decide)) (fun t ht hW => ⟨rfl, ht⟩) (fun _ h => absurd h List.not_mem_nil) dX4_hasRow_17
  · have hf := pf_f hc hf
    refine lv_iload_n hx hb dX4_hasRow_4 rfl (lv_at hl 1 rfl) ?_
    refine lv_aload_n hx hb dX4_hasRow_5 rfl (lv_at hl 0 rfl) ?_
    refine va_get (D := D) (ci := 4) (v := .int v_o_rows) (C := RX4) (T := TX4) (N := 6) hx hb hts iX4_hasRow_X4 hown hK.1 hP 0 rfl rfl 4 (by decide) (hts (.fieldLink RX4 24 "LoneSeats$Plan" "rows" "I") (by decide +kernel)) (fun _ h9 => h9) rfl dX4_hasRow_6 ?_
    refine lv_icmp_ge (tgt := 16) hx hb dX4_hasRow_9 (by decide) (fun hc => ?_) (fun hc => ?_)
    · have hf := pf_t hc hf
      refine lv_iconst (v := (0 : Int32)) hx hb dX4_hasRow_16 (by decide) ?_
      cases hf
      exact W.zret hx hb hr (nar_b (by decide)) (fun t ht hW => ⟨rfl, ht⟩) (fun _ h => absurd h List.not_mem_nil) dX4_hasRow_17
    · have hf := pf_f hc hf
      refine lv_iconst (v := (1 : Int32)) hx hb dX4_hasRow_12 (by decide) ?_
      refine lv_goto (tgt := 17) hx hb dX4_hasRow_13 (by decide) ?_
      cases hf
      exact W.zret hx hb hr (nar_b (by decide)) (fun t ht hW => ⟨rfl, ht⟩) (fun _ h => absurd h List.not_mem_nil) dX4_hasRow_17
abbrev WX4_firstPrice (cI cJ cZ cB : ClassId) (a_o : Nat) (a_o_prices : Nat) (a_o_seats : Nat) (a_o_joined : Nat) (a_o_views : Nat) (v_o_rows : Int32) (v_o_awaited : Int32) (d_o_prices : (Nat → Int32)) : va_W := [(a_o, .inr (4, [.ref a_o_prices, .ref a_o_seats, .ref a_o_joined, .ref a_o_views, .int v_o_rows, .int v_o_awaited])), (a_o_prices, .inl (cI, (4, .inl d_o_prices)))]
set_option maxRecDepth 20000 in
theorem iX4_firstPrice_X4 : ∀ w ∈ wsX40, w ∈ wsX4_firstPrice := by decide +kernel
def fX4_firstPrice (v_o_rows : Int32) (d_o_prices : (Nat → Int32)) (x1 : Int32) : Option (Int32) := ((fX4_hasRow v_o_rows x1).bind fun q1 => (if q1 = 0 then some (0 : Int32) else (if x1 < 0 ∨ 4 ≤ (x1).toNatClampNeg then none else some (d_o_prices (x1).toNatClampNeg))))
set_option maxRecDepth 100000 in
set_option maxHeartbeats 4000000 in
theorem kX4_firstPrice (l : Launch) (D : va_G) (cI cJ cZ cB : ClassId) (a_o : Nat) (a_o_prices : Nat) (a_o_seats : Nat) (a_o_joined : Nat) (a_o_views : Nat) (v_o_rows : Int32) (v_o_awaited : Int32) (d_o_prices : (Nat → Int32)) (x1 : Int32) (res : Int32) (hf : fX4_firstPrice v_o_rows d_o_prices x1 = some res) : Ro l yX4_firstPrice wsX4_firstPrice ({ frames := 1, cells := 0, slots := 0, locals := 21 } : Room) D (tyL cI cJ cZ cB) [.ref a_o, .int x1] (WX4_firstPrice cI cJ cZ cB a_o a_o_prices a_o_seats a_o_joined a_o_views v_o_rows v_o_awaited d_o_prices) (some (.int res)) := by
  refine Ro.of (cc := cX4_firstPrice) (maxL := 2) (ret := (some .int)) (own := RX4) (by decide) rfl rfl (Nat.le_of_ble_eq_true rfl) ?_
  intro p e s m below meth c ls C hK hP hl
  obtain ⟨hx, hb, hr, hml, hts, hown, hlk⟩ := id C
  have hl : lv_has ls 2 [(0, .ref a_o), (1, .int x1)] := hl
  unfold fX4_firstPrice at hf
  refine lv_aload_n hx hb dX4_firstPrice_0 rfl (lv_at hl 0 rfl) ?_
  refine lv_iload_n hx hb dX4_firstPrice_1 rfl (lv_at hl 1 rfl) ?_
  obtain ⟨q1, hq2, hf⟩ := pf_b hf
  have hPc := hP.sub (ws' := (WX4_hasRow cI cJ cZ cB a_o a_o_prices a_o_seats a_o_joined a_o_views v_o_rows v_o_awaited)) [0] rfl
  refine cl_roi (va_runV (As := [.int x1]) (rest := []) ⟨hx, hb, hml, hown, hts⟩ (kX4_hasRow l D cI cJ cZ cB a_o a_o_prices a_o_seats a_o_joined a_o_views v_o_rows v_o_awaited x1 q1 hq2) (cwV 1 hts gX4_firstPrice_X4_hasRow rfl rfl rfl (by decide +kernel) ⟨Nat.le_of_ble_eq_true rfl, Nat.le_of_ble_eq_true rfl⟩) ⟨PRo.blind, va_recv hK.1 hPc (ci := 4) (q0 := 0) rfl rfl, PRo.at hK hPc⟩ rfl rfl hl.1 rfl (lv_room (Nat.le_of_ble_eq_true rfl)) dX4_firstPrice_2 ⟨Nat.zero_le _, Nat.zero_le _⟩) ?_
  refine lv_if_eq (tgt := 17) hx hb dX4_firstPrice_5 (by decide) (fun hc => ?_) (fun hc => ?_)
  · have hf := pf_t hc hf
    refine lv_iconst (v := (0 : Int32)) hx hb dX4_firstPrice_17 (by decide) ?_
    cases hf
    exact W.iret hx hb hr (fun t ht hW => ⟨rfl, ht⟩) (fun _ h => absurd h List.not_mem_nil) dX4_firstPrice_18
  · have hf := pf_f hc hf
    refine lv_aload_n hx hb dX4_firstPrice_8 rfl (lv_at hl 0 rfl) ?_
    refine va_get (D := D) (ci := 4) (v := .ref a_o_prices) (C := RX4) (T := TX4) (N := 6) hx hb hts iX4_firstPrice_X4 hown hK.1 hP 0 rfl rfl 0 (by decide) (hts (.fieldLink RX4 9 "LoneSeats$Plan" "prices" "[I") (by decide +kernel)) (fun _ h9 => h9) rfl dX4_firstPrice_9 ?_
    refine lv_iload_n hx hb dX4_firstPrice_12 rfl (lv_at hl 1 rfl) ?_
    obtain ⟨hg3, hf⟩ := pf_x hf
    refine va_iald hx hb hK.1 hP 1 0 rfl rfl hg3 dX4_firstPrice_13 ?_
    refine lv_goto (tgt := 18) hx hb dX4_firstPrice_14 (by decide) ?_
    cases hf
    exact W.iret hx hb hr (fun t ht hW => ⟨rfl, ht⟩) (fun _ h => absurd h List.not_mem_nil) dX4_firstPrice_18
abbrev WX4_seatsIn (cI cJ cZ cB : ClassId) (a_o : Nat) (a_o_prices : Nat) (a_o_seats : Nat) (a_o_joined : Nat) (a_o_views : Nat) (v_o_rows : Int32) (v_o_awaited : Int32) (d_o_seats : (Nat → Int32)) : va_W := [(a_o, .inr (4, [.ref a_o_prices, .ref a_o_seats, .ref a_o_joined, .ref a_o_views, .int v_o_rows, .int v_o_awaited])), (a_o_seats, .inl (cI, (4, .inl d_o_seats)))]
set_option maxRecDepth 20000 in
theorem iX4_seatsIn_X4 : ∀ w ∈ wsX40, w ∈ wsX4_seatsIn := by decide +kernel
def fX4_seatsIn (v_o_rows : Int32) (d_o_seats : (Nat → Int32)) (x1 : Int32) : Option (Int32) := ((fX4_hasRow v_o_rows x1).bind fun q1 => (if q1 = 0 then some (0 : Int32) else (if x1 < 0 ∨ 4 ≤ (x1).toNatClampNeg then none else some (d_o_seats (x1).toNatClampNeg))))
set_option maxRecDepth 100000 in
set_option maxHeartbeats 4000000 in
theorem kX4_seatsIn (l : Launch) (D : va_G) (cI cJ cZ cB : ClassId) (a_o : Nat) (a_o_prices : Nat) (a_o_seats : Nat) (a_o_joined : Nat) (a_o_views : Nat) (v_o_rows : Int32) (v_o_awaited : Int32) (d_o_seats : (Nat → Int32)) (x1 : Int32) (res : Int32) (hf : fX4_seatsIn v_o_rows d_o_seats x1 = some res) : Ro l yX4_seatsIn wsX4_seatsIn ({ frames := 1, cells := 0, slots := 0, locals := 21 } : Room) D (tyL cI cJ cZ cB) [.ref a_o, .int x1] (WX4_seatsIn cI cJ cZ cB a_o a_o_prices a_o_seats a_o_joined a_o_views v_o_rows v_o_awaited d_o_seats) (some (.int res)) := by
  refine Ro.of (cc := cX4_seatsIn) (maxL := 2) (ret := (some .int)) (own := RX4) (by decide) rfl rfl (Nat.le_of_ble_eq_true rfl) ?_
  intro p e s m below meth c ls C hK hP hl
  obtain ⟨hx, hb, hr, hml, hts, hown, hlk⟩ := id C
  have hl : lv_has ls 2 [(0, .ref a_o), (1, .int x1)] := hl
  unfold fX4_seatsIn at hf
  refine lv_aload_n hx hb dX4_seatsIn_0 rfl (lv_at hl 0 rfl) ?_
  refine lv_iload_n hx hb dX4_seatsIn_1 rfl (lv_at hl 1 rfl) ?_
  obtain ⟨q1, hq2, hf⟩ := pf_b hf
  have hPc := hP.sub (ws' := (WX4_hasRow cI cJ cZ cB a_o a_o_prices a_o_seats a_o_joined a_o_views v_o_rows v_o_awaited)) [0] rfl
  refine cl_roi (va_runV (As := [.int x1]) (rest := []) ⟨hx, hb, hml, hown, hts⟩ (kX4_hasRow l D cI cJ cZ cB a_o a_o_prices a_o_seats a_o_joined a_o_views v_o_rows v_o_awaited x1 q1 hq2) (cwV 1 hts gX4_seatsIn_X4_hasRow rfl rfl rfl (by decide +kernel) ⟨Nat.le_of_ble_eq_true rfl, Nat.le_of_ble_eq_true rfl⟩) ⟨PRo.blind, va_recv hK.1 hPc (ci := 4) (q0 := 0) rfl rfl, PRo.at hK hPc⟩ rfl rfl hl.1 rfl (lv_room (Nat.le_of_ble_eq_true rfl)) dX4_seatsIn_2 ⟨Nat.zero_le _, Nat.zero_le _⟩) ?_
  refine lv_if_eq (tgt := 17) hx hb dX4_seatsIn_5 (by decide) (fun hc => ?_) (fun hc => ?_)
  · have hf := pf_t hc hf
    refine lv_iconst (v := (0 : Int32)) hx hb dX4_seatsIn_17 (by decide) ?_
    cases hf
    exact W.iret hx hb hr (fun t ht hW => ⟨rfl, ht⟩) (fun _ h => absurd h List.not_mem_nil) dX4_seatsIn_18
  · have hf := pf_f hc hf
    refine lv_aload_n hx hb dX4_seatsIn_8 rfl (lv_at hl 0 rfl) ?_
    refine va_get (D := D) (ci := 4) (v := .ref a_o_seats) (C := RX4) (T := TX4) (N := 6) hx hb hts iX4_seatsIn_X4 hown hK.1 hP 0 rfl rfl 1 (by decide) (hts (.fieldLink RX4 15 "LoneSeats$Plan" "seats" "[I") (by decide +kernel)) (fun _ h9 => h9) rfl dX4_seatsIn_9 ?_
    refine lv_iload_n hx hb dX4_seatsIn_12 rfl (lv_at hl 1 rfl) ?_
    obtain ⟨hg3, hf⟩ := pf_x hf
    refine va_iald hx hb hK.1 hP 1 0 rfl rfl hg3 dX4_seatsIn_13 ?_
    refine lv_goto (tgt := 18) hx hb dX4_seatsIn_14 (by decide) ?_
    cases hf
    exact W.iret hx hb hr (fun t ht hW => ⟨rfl, ht⟩) (fun _ h => absurd h List.not_mem_nil) dX4_seatsIn_18
def fX8_span (x0 : Int32) (x1 : Int32) : Option (Int32) := some ((((1 : Int32) <<< (x1 &&& 31)) - (1 : Int32)) <<< (x0 &&& 31))
set_option maxRecDepth 100000 in
set_option maxHeartbeats 4000000 in
theorem kX8_span (l : Launch) (D : va_G) (cI cJ cZ cB : ClassId) (x0 : Int32) (x1 : Int32) (res : Int32) (hf : fX8_span x0 x1 = some res) : Ro l yX8_span wsX8_span ({ frames := 0, cells := 0, slots := 0, locals := 0 } : Room) D (tyL cI cJ cZ cB) [.int x0, .int x1] ([] : va_W) (some (.int res)) := by
  refine Ro.of (cc := cX8_span) (maxL := 2) (ret := (some .int)) (own := RX8) (by decide) rfl rfl (Nat.le_of_ble_eq_true rfl) ?_
  intro p e s m below meth c ls C hK hP hl
  obtain ⟨hx, hb, hr, hml, hts, hown, hlk⟩ := id C
  have hl : lv_has ls 2 [(0, .int x0), (1, .int x1)] := hl
  unfold fX8_span at hf
  refine lv_iconst (v := (1 : Int32)) hx hb dX8_span_0 (by decide) ?_
  refine lv_iload_n hx hb dX8_span_1 rfl (lv_at hl 1 rfl) ?_
  refine lv_ishl hx hb dX8_span_2 ?_
  refine lv_iconst (v := (1 : Int32)) hx hb dX8_span_3 (by decide) ?_
  refine lv_isub hx hb dX8_span_4 ?_
  refine lv_iload_n hx hb dX8_span_5 rfl (lv_at hl 0 rfl) ?_
  refine lv_ishl hx hb dX8_span_6 ?_
  cases hf
  exact W.iret hx hb hr (fun t ht hW => ⟨rfl, ht⟩) (fun _ h => absurd h List.not_mem_nil) dX8_span_7
abbrev WX0_open (cI cJ cZ cB : ClassId) (a_o : Nat) (a_o_prices : Nat) (a_o_free : Nat) (a_o_sizes : Nat) (a_o_limits : Nat) (a_o_places : Nat) (a_o_paid : Nat) (a_o_queue : Nat) (a_p1 : Nat) (a_p1_prices : Nat) (a_p1_seats : Nat) (a_p1_joined : Nat) (a_p1_views : Nat) (v_o_asked : Int32) (v_o_waiting : Int32) (v_o_fee : Int32) (v_o_takings : Int32) (d_o_prices : (Nat → Int32)) (d_o_free : (Nat → Int32)) (v_p1_rows : Int32) (v_p1_awaited : Int32) (d_p1_prices : (Nat → Int32)) (d_p1_seats : (Nat → Int32)) : va_W := [(a_o, .inr (0, [.ref a_o_prices, .ref a_o_free, .ref a_o_sizes, .ref a_o_limits, .ref a_o_places, .ref a_o_paid, .ref a_o_queue, .int v_o_asked, .int v_o_waiting, .int v_o_fee, .int v_o_takings])), (a_o_prices, .inl (cI, (4, .inl d_o_prices))), (a_o_free, .inl (cI, (4, .inl d_o_free))), (a_p1, .inr (4, [.ref a_p1_prices, .ref a_p1_seats, .ref a_p1_joined, .ref a_p1_views, .int v_p1_rows, .int v_p1_awaited])), (a_p1_prices, .inl (cI, (4, .inl d_p1_prices))), (a_p1_seats, .inl (cI, (4, .inl d_p1_seats)))]
set_option maxRecDepth 20000 in
theorem iX0_open_X0 : ∀ w ∈ wsX00, w ∈ wsX0_open := by decide +kernel
def fX0_open_2 : Nat → Int32 → Int32 → Int32 → Int32 → (Nat → Int32) → (Nat → Int32) → Int32 → (Nat → Int32) → (Nat → Int32) → Int32 → Option (Int32 × Int32 × Int32 × Int32 × (Nat → Int32) × (Nat → Int32))
  | 0, _, _, _, _, _, _, _, _, _, _ => none
  | n + 1, v_o_asked, v_o_waiting, v_o_fee, v_o_takings, d_o_prices, d_o_free, v_p1_rows, d_p1_prices, d_p1_seats, x2 => (if (4 : Int32) ≤ x2 then some ((0 : Int32), (0 : Int32), (0 : Int32), (0 : Int32), d_o_prices, d_o_free) else ((fX4_firstPrice v_p1_rows d_p1_prices x2).bind fun q1 => (if x2 < 0 ∨ 4 ≤ (x2).toNatClampNeg then none else ((fX4_seatsIn v_p1_rows d_p1_seats x2).bind fun q4 => ((fX8_span (0 : Int32) q4).bind fun q6 => (if x2 < 0 ∨ 4 ≤ (x2).toNatClampNeg then none else fX0_open_2 n v_o_asked v_o_waiting v_o_fee v_o_takings (upd d_o_prices ((x2).toNatClampNeg) q1) (upd d_o_free ((x2).toNatClampNeg) q6) v_p1_rows d_p1_prices d_p1_seats (x2 + (1 : Int32))))))))
set_option maxRecDepth 100000 in
set_option maxHeartbeats 4000000 in
theorem tX0_open_2 {p : Program} {l : Launch} {e : Env} {s : State} {m : MethodId} {args : Array Value} {below : List Frame} {meth : Method} {c : Code} {D : va_G} {cI cJ cZ cB : ClassId} {a_o : Nat} {a_o_prices : Nat} {a_o_free : Nat} {a_o_sizes : Nat} {a_o_limits : Nat} {a_o_places : Nat} {a_o_paid : Nat} {a_o_queue : Nat} {a_p1 : Nat} {a_p1_prices : Nat} {a_p1_seats : Nat} {a_p1_joined : Nat} {a_p1_views : Nat} {A : Nat → Prop} (C : Cx p s m args meth c cX0_open 3 none wsX0_open RX0) (hK : Kw D (tyL cI cJ cZ cB) s) (hA : ∀ q : Nat, s.heap.size ≤ q → A q) : ∀ (n : Nat), ∀ (v_o_asked : Int32) (v_o_waiting : Int32) (v_o_fee : Int32) (v_o_takings : Int32) (d_o_prices : (Nat → Int32)) (d_o_free : (Nat → Int32)) (v_p1_rows : Int32) (v_p1_awaited : Int32) (d_p1_prices : (Nat → Int32)) (d_p1_seats : (Nat → Int32)) (x2 : Int32) (H : Heap) (locs : List Loc) (ls : Array Slot) (res : Int32 × Int32 × Int32 × Int32 × (Nat → Int32) × (Nat → Int32)), va_P D vwCl (WX0_open cI cJ cZ cB a_o a_o_prices a_o_free a_o_sizes a_o_limits a_o_places a_o_paid a_o_queue a_p1 a_p1_prices a_p1_seats a_p1_joined a_p1_views v_o_asked v_o_waiting v_o_fee v_o_takings d_o_prices d_o_free v_p1_rows v_p1_awaited d_p1_prices d_p1_seats) H → va_D A (WX0_open cI cJ cZ cB a_o a_o_prices a_o_free a_o_sizes a_o_limits a_o_places a_o_paid a_o_queue a_p1 a_p1_prices a_p1_seats a_p1_joined a_p1_views v_o_asked v_o_waiting v_o_fee v_o_takings d_o_prices d_o_free v_p1_rows v_p1_awaited d_p1_prices d_p1_seats) → va_S A s.heap H locs → lv_has ls 3 [(0, .ref a_o), (1, .ref a_p1), (2, .int x2)] → fX0_open_2 n v_o_asked v_o_waiting v_o_fee v_o_takings d_o_prices d_o_free v_p1_rows d_p1_prices d_p1_seats x2 = some res → W p l e ({ frames := 2, cells := 0, slots := 0, locals := 42 } : Room) s m args below meth c H locs 0 0 (MQ below (QRw D A (WX0_open cI cJ cZ cB a_o a_o_prices a_o_free a_o_sizes a_o_limits a_o_places a_o_paid a_o_queue a_p1 a_p1_prices a_p1_seats a_p1_joined a_p1_views res.1 res.2.1 res.2.2.1 res.2.2.2.1 res.2.2.2.2.1 res.2.2.2.2.2 v_p1_rows v_p1_awaited d_p1_prices d_p1_seats) none) args s 0 0 A) (F0 m 2 ls []) := by
  obtain ⟨hx, hb, hr, hml, hts, hown, hlk⟩ := id C
  intro n
  induction n with
  | zero =>
    intro v_o_asked v_o_waiting v_o_fee v_o_takings d_o_prices d_o_free v_p1_rows v_p1_awaited d_p1_prices d_p1_seats x2 H locs ls res hP hD hS hl hf
    rw [fX0_open_2] at hf
    cases hf
  | succ n ih =>
    intro v_o_asked v_o_waiting v_o_fee v_o_takings d_o_prices d_o_free v_p1_rows v_p1_awaited d_p1_prices d_p1_seats x2 H locs ls res hP hD hS hl hf
    rw [fX0_open_2] at hf
    refine lv_iload_n hx hb dX0_open_2 rfl (lv_at hl 2 rfl) ?_
    refine lv_iconst (v := (4 : Int32)) hx hb dX0_open_3 (by decide) ?_
    refine lv_icmp_ge (tgt := 39) hx hb dX0_open_4 (by decide) (fun hc => ?_) (fun hc => ?_)
    · have hf := pf_t hc hf
      refine lv_aload_n hx hb dX0_open_39 rfl (lv_at hl 0 rfl) ?_
      refine lv_iconst (v := (0 : Int32)) hx hb dX0_open_40 (by decide) ?_
      refine va_put (D := D) (ci := 0) (v := .int (0 : Int32)) (ty := .int) (C := RX0) (T := TX0) (N := 11) hx hb hts iX0_open_X0 tyX0 tyX0_ok nmX0 hown hK.1 hP hD hS 0 rfl rfl 7 (by decide) (hts (.fieldLink RX0 46 "LoneSeats$Bookings" "asked" "I") (by decide +kernel)) (fun _ h9 => h9) rfl (by decide +kernel) rfl rfl (Nat.le_of_ble_eq_true rfl) dX0_open_41 (fun H locs hP hD hS => ?_)
      have hP : va_P D vwCl (WX0_open cI cJ cZ cB a_o a_o_prices a_o_free a_o_sizes a_o_limits a_o_places a_o_paid a_o_queue a_p1 a_p1_prices a_p1_seats a_p1_joined a_p1_views (0 : Int32) v_o_waiting v_o_fee v_o_takings d_o_prices d_o_free v_p1_rows v_p1_awaited d_p1_prices d_p1_seats) H := hP
      have hD : va_D A (WX0_open cI cJ cZ cB a_o a_o_prices a_o_free a_o_sizes a_o_limits a_o_places a_o_paid a_o_queue a_p1 a_p1_prices a_p1_seats a_p1_joined a_p1_views (0 : Int32) v_o_waiting v_o_fee v_o_takings d_o_prices d_o_free v_p1_rows v_p1_awaited d_p1_prices d_p1_seats) := hD
      refine lv_aload_n hx hb dX0_open_44 rfl (lv_at hl 0 rfl) ?_
      refine lv_iconst (v := (0 : Int32)) hx hb dX0_open_45 (by decide) ?_
      refine va_put (D := D) (ci := 0) (v := .int (0 : Int32)) (ty := .int) (C := RX0) (T := TX0) (N := 11) hx hb hts iX0_open_X0 tyX0 tyX0_ok nmX0 hown hK.1 hP hD hS 0 rfl rfl 8 (by decide) (hts (.fieldLink RX0 50 "LoneSeats$Bookings" "waiting" "I") (by decide +kernel)) (fun _ h9 => h9) rfl (by decide +kernel) rfl rfl (Nat.le_of_ble_eq_true rfl) dX0_open_46 (fun H locs hP hD hS => ?_)
      have hP : va_P D vwCl (WX0_open cI cJ cZ cB a_o a_o_prices a_o_free a_o_sizes a_o_limits a_o_places a_o_paid a_o_queue a_p1 a_p1_prices a_p1_seats a_p1_joined a_p1_views (0 : Int32) (0 : Int32) v_o_fee v_o_takings d_o_prices d_o_free v_p1_rows v_p1_awaited d_p1_prices d_p1_seats) H := hP
      have hD : va_D A (WX0_open cI cJ cZ cB a_o a_o_prices a_o_free a_o_sizes a_o_limits a_o_places a_o_paid a_o_queue a_p1 a_p1_prices a_p1_seats a_p1_joined a_p1_views (0 : Int32) (0 : Int32) v_o_fee v_o_takings d_o_prices d_o_free v_p1_rows v_p1_awaited d_p1_prices d_p1_seats) := hD
      refine lv_aload_n hx hb dX0_open_49 rfl (lv_at hl 0 rfl) ?_
      refine lv_iconst (v := (0 : Int32)) hx hb dX0_open_50 (by decide) ?_
      refine va_put (D := D) (ci := 0) (v := .int (0 : Int32)) (ty := .int) (C := RX0) (T := TX0) (N := 11) hx hb hts iX0_open_X0 tyX0 tyX0_ok nmX0 hown hK.1 hP hD hS 0 rfl rfl 9 (by decide) (hts (.fieldLink RX0 53 "LoneSeats$Bookings" "fee" "I") (by decide +kernel)) (fun _ h9 => h9) rfl (by decide +kernel) rfl rfl (Nat.le_of_ble_eq_true rfl) dX0_open_51 (fun H locs hP hD hS => ?_)
      have hP : va_P D vwCl (WX0_open cI cJ cZ cB a_o a_o_prices a_o_free a_o_sizes a_o_limits a_o_places a_o_paid a_o_queue a_p1 a_p1_prices a_p1_seats a_p1_joined a_p1_views (0 : Int32) (0 : Int32) (0 : Int32) v_o_takings d_o_prices d_o_free v_p1_rows v_p1_awaited d_p1_prices d_p1_seats) H := hP
      have hD : va_D A (WX0_open cI cJ cZ cB a_o a_o_prices a_o_free a_o_sizes a_o_limits a_o_places a_o_paid a_o_queue a_p1 a_p1_prices a_p1_seats a_p1_joined a_p1_views (0 : Int32) (0 : Int32) (0 : Int32) v_o_takings d_o_prices d_o_free v_p1_rows v_p1_awaited d_p1_prices d_p1_seats) := hD
      refine lv_aload_n hx hb dX0_open_54 rfl (lv_at hl 0 rfl) ?_
      refine lv_iconst (v := (0 : Int32)) hx hb dX0_open_55 (by decide) ?_
      refine va_put (D := D) (ci := 0) (v := .int (0 : Int32)) (ty := .int) (C := RX0) (T := TX0) (N := 11) hx hb hts iX0_open_X0 tyX0 tyX0_ok nmX0 hown hK.1 hP hD hS 0 rfl rfl 10 (by decide) (hts (.fieldLink RX0 56 "LoneSeats$Bookings" "takings" "I") (by decide +kernel)) (fun _ h9 => h9) rfl (by decide +kernel) rfl rfl (Nat.le_of_ble_eq_true rfl) dX0_open_56 (fun H locs hP hD hS => ?_)
      have hP : va_P D vwCl (WX0_open cI cJ cZ cB a_o a_o_prices a_o_free a_o_sizes a_o_limits a_o_places a_o_paid a_o_queue a_p1 a_p1_prices a_p1_seats a_p1_joined a_p1_views (0 : Int32) (0 : Int32) (0 : Int32) (0 : Int32) d_o_prices d_o_free v_p1_rows v_p1_awaited d_p1_prices d_p1_seats) H := hP
      have hD : va_D A (WX0_open cI cJ cZ cB a_o a_o_prices a_o_free a_o_sizes a_o_limits a_o_places a_o_paid a_o_queue a_p1 a_p1_prices a_p1_seats a_p1_joined a_p1_views (0 : Int32) (0 : Int32) (0 : Int32) (0 : Int32) d_o_prices d_o_free v_p1_rows v_p1_awaited d_p1_prices d_p1_seats) := hD
      cases hf
      exact W.vret hx hb hr (fun t ht hW => ⟨⟨rfl, by rw [ht]; exact hP, hD⟩, hS.F ht⟩) hS.2.2 dX0_open_59
    · have hf := pf_f hc hf
      refine lv_aload_n hx hb dX0_open_7 rfl (lv_at hl 0 rfl) ?_
      refine va_get (D := D) (ci := 0) (v := .ref a_o_prices) (C := RX0) (T := TX0) (N := 11) hx hb hts iX0_open_X0 hown hK.1 hP 0 rfl rfl 0 (by decide) (hts (.fieldLink RX0 9 "LoneSeats$Bookings" "prices" "[I") (by decide +kernel)) (fun _ h9 => h9) rfl dX0_open_8 ?_
      refine lv_iload_n hx hb dX0_open_11 rfl (lv_at hl 2 rfl) ?_
      refine lv_aload_n hx hb dX0_open_12 rfl (lv_at hl 1 rfl) ?_
      refine lv_iload_n hx hb dX0_open_13 rfl (lv_at hl 2 rfl) ?_
      obtain ⟨q1, hq2, hf⟩ := pf_b hf
      have hPc := hP.sub (ws' := (WX4_firstPrice cI cJ cZ cB a_p1 a_p1_prices a_p1_seats a_p1_joined a_p1_views v_p1_rows v_p1_awaited d_p1_prices)) [3, 4] rfl
      refine cl_roi (va_runV (As := [.int x2]) (rest := [.int x2, .ref a_o_prices]) ⟨hx, hb, hml, hown, hts⟩ (kX4_firstPrice l D cI cJ cZ cB a_p1 a_p1_prices a_p1_seats a_p1_joined a_p1_views v_p1_rows v_p1_awaited d_p1_prices x2 q1 hq2) (cwV 1 hts gX0_open_X4_firstPrice rfl rfl rfl (by decide +kernel) ⟨Nat.le_of_ble_eq_true rfl, Nat.le_of_ble_eq_true rfl⟩) ⟨PRo.blind, va_recv hK.1 hPc (ci := 4) (q0 := 0) rfl rfl, PRo.at hK hPc⟩ rfl rfl hl.1 rfl (lv_room (Nat.le_of_ble_eq_true rfl)) dX0_open_14 ⟨Nat.zero_le _, Nat.zero_le _⟩) ?_
      obtain ⟨hg3, hf⟩ := pf_x hf
      refine va_iast hx hb hK.1 hP hD hS 1 0 rfl rfl hg3 dX0_open_17 (fun H locs hP hD hS => ?_)
      have hP : va_P D vwCl (WX0_open cI cJ cZ cB a_o a_o_prices a_o_free a_o_sizes a_o_limits a_o_places a_o_paid a_o_queue a_p1 a_p1_prices a_p1_seats a_p1_joined a_p1_views v_o_asked v_o_waiting v_o_fee v_o_takings (upd d_o_prices ((x2).toNatClampNeg) q1) d_o_free v_p1_rows v_p1_awaited d_p1_prices d_p1_seats) H := hP
      have hD : va_D A (WX0_open cI cJ cZ cB a_o a_o_prices a_o_free a_o_sizes a_o_limits a_o_places a_o_paid a_o_queue a_p1 a_p1_prices a_p1_seats a_p1_joined a_p1_views v_o_asked v_o_waiting v_o_fee v_o_takings (upd d_o_prices ((x2).toNatClampNeg) q1) d_o_free v_p1_rows v_p1_awaited d_p1_prices d_p1_seats) := hD
      refine lv_aload_n hx hb dX0_open_18 rfl (lv_at hl 0 rfl) ?_
      refine va_get (D := D) (ci := 0) (v := .ref a_o_free) (C := RX0) (T := TX0) (N := 11) hx hb hts iX0_open_X0 hown hK.1 hP 0 rfl rfl 1 (by decide) (hts (.fieldLink RX0 15 "LoneSeats$Bookings" "free" "[I") (by decide +kernel)) (fun _ h9 => h9) rfl dX0_open_19 ?_
      refine lv_iload_n hx hb dX0_open_22 rfl (lv_at hl 2 rfl) ?_
      refine lv_iconst (v := (0 : Int32)) hx hb dX0_open_23 (by decide) ?_
      refine lv_aload_n hx hb dX0_open_24 rfl (lv_at hl 1 rfl) ?_
      refine lv_iload_n hx hb dX0_open_25 rfl (lv_at hl 2 rfl) ?_
      obtain ⟨q4, hq5, hf⟩ := pf_b hf
      have hPc := hP.sub (ws' := (WX4_seatsIn cI cJ cZ cB a_p1 a_p1_prices a_p1_seats a_p1_joined a_p1_views v_p1_rows v_p1_awaited d_p1_seats)) [3, 5] rfl
      refine cl_roi (va_runV (As := [.int x2]) (rest := [.int (0 : Int32), .int x2, .ref a_o_free]) ⟨hx, hb, hml, hown, hts⟩ (kX4_seatsIn l D cI cJ cZ cB a_p1 a_p1_prices a_p1_seats a_p1_joined a_p1_views v_p1_rows v_p1_awaited d_p1_seats x2 q4 hq5) (cwV 1 hts gX0_open_X4_seatsIn rfl rfl rfl (by decide +kernel) ⟨Nat.le_of_ble_eq_true rfl, Nat.le_of_ble_eq_true rfl⟩) ⟨PRo.blind, va_recv hK.1 hPc (ci := 4) (q0 := 0) rfl rfl, PRo.at hK hPc⟩ rfl rfl hl.1 rfl (lv_room (Nat.le_of_ble_eq_true rfl)) dX0_open_26 ⟨Nat.zero_le _, Nat.zero_le _⟩) ?_
      obtain ⟨q6, hq7, hf⟩ := pf_b hf
      have hPc := hP.sub (ws' := ([] : va_W)) [] rfl
      refine cl_roi (va_runSN (As := [.int (0 : Int32), .int q4]) (rest := [.int x2, .ref a_o_free]) ⟨hx, hb, hml, hown, hts⟩ (kX8_span l D cI cJ cZ cB (0 : Int32) q4 q6 hq7) ⟨va_cnB 2 hts gX0_open_X8_span_n42 rfl rfl rfl (hK.2.at 8 rfl) (hts (.initialized RX8) (by decide +kernel)) (by decide +kernel) ⟨Nat.le_of_ble_eq_true rfl, Nat.le_of_ble_eq_true rfl⟩, hts (.static yX8_span) (by decide +kernel), trivial⟩ ⟨PRo.blind, PRo.at hK hPc⟩ rfl rfl hl.1 rfl (lv_room (Nat.le_of_ble_eq_true rfl)) dX0_open_29 ⟨Nat.zero_le _, Nat.zero_le _⟩) ?_
      obtain ⟨hg8, hf⟩ := pf_x hf
      refine va_iast hx hb hK.1 hP hD hS 2 0 rfl rfl hg8 dX0_open_32 (fun H locs hP hD hS => ?_)
      have hP : va_P D vwCl (WX0_open cI cJ cZ cB a_o a_o_prices a_o_free a_o_sizes a_o_limits a_o_places a_o_paid a_o_queue a_p1 a_p1_prices a_p1_seats a_p1_joined a_p1_views v_o_asked v_o_waiting v_o_fee v_o_takings (upd d_o_prices ((x2).toNatClampNeg) q1) (upd d_o_free ((x2).toNatClampNeg) q6) v_p1_rows v_p1_awaited d_p1_prices d_p1_seats) H := hP
      have hD : va_D A (WX0_open cI cJ cZ cB a_o a_o_prices a_o_free a_o_sizes a_o_limits a_o_places a_o_paid a_o_queue a_p1 a_p1_prices a_p1_seats a_p1_joined a_p1_views v_o_asked v_o_waiting v_o_fee v_o_takings (upd d_o_prices ((x2).toNatClampNeg) q1) (upd d_o_free ((x2).toNatClampNeg) q6) v_p1_rows v_p1_awaited d_p1_prices d_p1_seats) := hD
      refine lv_iinc (v := (x2 + (1 : Int32))) (lv' := [(2, .int (x2 + (1 : Int32))), (0, .ref a_o), (1, .ref a_p1)]) hx hb dX0_open_33 hl (k := 2) rfl rfl (by decide) rfl (fun ls hl => ?_)
      refine lv_goto (tgt := 2) hx hb dX0_open_36 (by decide) ?_
      exact ih v_o_asked v_o_waiting v_o_fee v_o_takings (upd d_o_prices ((x2).toNatClampNeg) q1) (upd d_o_free ((x2).toNatClampNeg) q6) v_p1_rows v_p1_awaited d_p1_prices d_p1_seats (x2 + (1 : Int32)) _ _ ls _ hP hD hS (lv_sub hl [1, 2, 0] rfl) hf
def fX0_open (v_o_asked : Int32) (v_o_waiting : Int32) (v_o_fee : Int32) (v_o_takings : Int32) (d_o_prices : (Nat → Int32)) (d_o_free : (Nat → Int32)) (v_p1_rows : Int32) (d_p1_prices : (Nat → Int32)) (d_p1_seats : (Nat → Int32)) : Option (Int32 × Int32 × Int32 × Int32 × (Nat → Int32) × (Nat → Int32)) := fX0_open_2 FU v_o_asked v_o_waiting v_o_fee v_o_takings d_o_prices d_o_free v_p1_rows d_p1_prices d_p1_seats (0 : Int32)
set_option maxRecDepth 100000 in
set_option maxHeartbeats 4000000 in
theorem kX0_open (l : Launch) (D : va_G) (cI cJ cZ cB : ClassId) (a_o : Nat) (a_o_prices : Nat) (a_o_free : Nat) (a_o_sizes : Nat) (a_o_limits : Nat) (a_o_places : Nat) (a_o_paid : Nat) (a_o_queue : Nat) (a_p1 : Nat) (a_p1_prices : Nat) (a_p1_seats : Nat) (a_p1_joined : Nat) (a_p1_views : Nat) (v_o_asked : Int32) (v_o_waiting : Int32) (v_o_fee : Int32) (v_o_takings : Int32) (d_o_prices : (Nat → Int32)) (d_o_free : (Nat → Int32)) (v_p1_rows : Int32) (v_p1_awaited : Int32) (d_p1_prices : (Nat → Int32)) (d_p1_seats : (Nat → Int32)) (res : Int32 × Int32 × Int32 × Int32 × (Nat → Int32) × (Nat → Int32)) (hf : fX0_open v_o_asked v_o_waiting v_o_fee v_o_takings d_o_prices d_o_free v_p1_rows d_p1_prices d_p1_seats = some res) : Rw l yX0_open wsX0_open ({ frames := 2, cells := 0, slots := 0, locals := 42 } : Room) D (tyL cI cJ cZ cB) [.ref a_o, .ref a_p1] (WX0_open cI cJ cZ cB a_o a_o_prices a_o_free a_o_sizes a_o_limits a_o_places a_o_paid a_o_queue a_p1 a_p1_prices a_p1_seats a_p1_joined a_p1_views v_o_asked v_o_waiting v_o_fee v_o_takings d_o_prices d_o_free v_p1_rows v_p1_awaited d_p1_prices d_p1_seats) none (WX0_open cI cJ cZ cB a_o a_o_prices a_o_free a_o_sizes a_o_limits a_o_places a_o_paid a_o_queue a_p1 a_p1_prices a_p1_seats a_p1_joined a_p1_views res.1 res.2.1 res.2.2.1 res.2.2.2.1 res.2.2.2.2.1 res.2.2.2.2.2 v_p1_rows v_p1_awaited d_p1_prices d_p1_seats) := by
  refine Rw.of (cc := cX0_open) (maxL := 3) (ret := none) (own := RX0) (by decide) rfl rfl (Nat.le_of_ble_eq_true rfl) ?_
  intro p e s m below meth c A ls C hK hA hP hD hS hl
  obtain ⟨hx, hb, hr, hml, hts, hown, hlk⟩ := id C
  have hl : lv_has ls 3 [(0, .ref a_o), (1, .ref a_p1)] := hl
  unfold fX0_open at hf
  refine lv_iconst (v := (0 : Int32)) hx hb dX0_open_0 (by decide) ?_
  refine lv_istore_n (lv' := [(2, .int (0 : Int32)), (0, .ref a_o), (1, .ref a_p1)]) hx hb dX0_open_1 rfl hl (by decide) rfl (fun ls hl => ?_)
  exact tX0_open_2 C hK hA  FU v_o_asked v_o_waiting v_o_fee v_o_takings d_o_prices d_o_free v_p1_rows v_p1_awaited d_p1_prices d_p1_seats (0 : Int32) _ _ ls _ hP hD hS (lv_sub hl [1, 2, 0] rfl) hf
abbrev WX0_copyFrom (cI cJ cZ cB : ClassId) (a_o : Nat) (a_o_prices : Nat) (a_o_free : Nat) (a_o_sizes : Nat) (a_o_limits : Nat) (a_o_places : Nat) (a_o_paid : Nat) (a_o_queue : Nat) (a_p1 : Nat) (a_p1_prices : Nat) (a_p1_free : Nat) (a_p1_sizes : Nat) (a_p1_limits : Nat) (a_p1_places : Nat) (a_p1_paid : Nat) (a_p1_queue : Nat) (v_o_asked : Int32) (v_o_waiting : Int32) (v_o_fee : Int32) (v_o_takings : Int32) (d_o_prices : (Nat → Int32)) (d_o_free : (Nat → Int32)) (d_o_sizes : (Nat → Int32)) (d_o_limits : (Nat → Int32)) (d_o_places : (Nat → Int32)) (d_o_paid : (Nat → Int32)) (d_o_queue : (Nat → Int32)) (v_p1_asked : Int32) (v_p1_waiting : Int32) (v_p1_fee : Int32) (v_p1_takings : Int32) (d_p1_prices : (Nat → Int32)) (d_p1_free : (Nat → Int32)) (d_p1_sizes : (Nat → Int32)) (d_p1_limits : (Nat → Int32)) (d_p1_places : (Nat → Int32)) (d_p1_paid : (Nat → Int32)) (d_p1_queue : (Nat → Int32)) : va_W := [(a_o, .inr (0, [.ref a_o_prices, .ref a_o_free, .ref a_o_sizes, .ref a_o_limits, .ref a_o_places, .ref a_o_paid, .ref a_o_queue, .int v_o_asked, .int v_o_waiting, .int v_o_fee, .int v_o_takings])), (a_o_prices, .inl (cI, (4, .inl d_o_prices))), (a_o_free, .inl (cI, (4, .inl d_o_free))), (a_o_sizes, .inl (cI, (31, .inl d_o_sizes))), (a_o_limits, .inl (cI, (31, .inl d_o_limits))), (a_o_places, .inl (cI, (31, .inl d_o_places))), (a_o_paid, .inl (cI, (31, .inl d_o_paid))), (a_o_queue, .inl (cI, (5, .inl d_o_queue))), (a_p1, .inr (0, [.ref a_p1_prices, .ref a_p1_free, .ref a_p1_sizes, .ref a_p1_limits, .ref a_p1_places, .ref a_p1_paid, .ref a_p1_queue, .int v_p1_asked, .int v_p1_waiting, .int v_p1_fee, .int v_p1_takings])), (a_p1_prices, .inl (cI, (4, .inl d_p1_prices))), (a_p1_free, .inl (cI, (4, .inl d_p1_free))), (a_p1_sizes, .inl (cI, (31, .inl d_p1_sizes))), (a_p1_limits, .inl (cI, (31, .inl d_p1_limits))), (a_p1_places, .inl (cI, (31, .inl d_p1_places))), (a_p1_paid, .inl (cI, (31, .inl d_p1_paid))), (a_p1_queue, .inl (cI, (5, .inl d_p1_queue)))]
set_option maxRecDepth 20000 in
theorem iX0_copyFrom_X0 : ∀ w ∈ wsX00, w ∈ wsX0_copyFrom := by decide +kernel
def fX0_copyFrom (v_o_asked : Int32) (v_o_waiting : Int32) (v_o_fee : Int32) (v_o_takings : Int32) (d_o_prices : (Nat → Int32)) (d_o_free : (Nat → Int32)) (d_o_sizes : (Nat → Int32)) (d_o_limits : (Nat → Int32)) (d_o_places : (Nat → Int32)) (d_o_paid : (Nat → Int32)) (d_o_queue : (Nat → Int32)) (v_p1_asked : Int32) (v_p1_waiting : Int32) (v_p1_fee : Int32) (v_p1_takings : Int32) (d_p1_prices : (Nat → Int32)) (d_p1_free : (Nat → Int32)) (d_p1_sizes : (Nat → Int32)) (d_p1_limits : (Nat → Int32)) (d_p1_places : (Nat → Int32)) (d_p1_paid : (Nat → Int32)) (d_p1_queue : (Nat → Int32)) : Option (Int32 × Int32 × Int32 × Int32 × (Nat → Int32) × (Nat → Int32) × (Nat → Int32) × (Nat → Int32) × (Nat → Int32) × (Nat → Int32) × (Nat → Int32)) := some (v_p1_asked, v_p1_waiting, v_p1_fee, v_p1_takings, (va_cpy d_p1_prices d_o_prices ((0 : Int32)).toNatClampNeg ((0 : Int32)).toNatClampNeg ((4 : Int32)).toNatClampNeg), (va_cpy d_p1_free d_o_free ((0 : Int32)).toNatClampNeg ((0 : Int32)).toNatClampNeg ((4 : Int32)).toNatClampNeg), (va_cpy d_p1_sizes d_o_sizes ((0 : Int32)).toNatClampNeg ((0 : Int32)).toNatClampNeg ((31 : Int32)).toNatClampNeg), (va_cpy d_p1_limits d_o_limits ((0 : Int32)).toNatClampNeg ((0 : Int32)).toNatClampNeg ((31 : Int32)).toNatClampNeg), (va_cpy d_p1_places d_o_places ((0 : Int32)).toNatClampNeg ((0 : Int32)).toNatClampNeg ((31 : Int32)).toNatClampNeg), (va_cpy d_p1_paid d_o_paid ((0 : Int32)).toNatClampNeg ((0 : Int32)).toNatClampNeg ((31 : Int32)).toNatClampNeg), (va_cpy d_p1_queue d_o_queue ((0 : Int32)).toNatClampNeg ((0 : Int32)).toNatClampNeg ((5 : Int32)).toNatClampNeg))
set_option maxRecDepth 100000 in
set_option maxHeartbeats 4000000 in
theorem kX0_copyFrom (l : Launch) (D : va_G) (cI cJ cZ cB : ClassId) (a_o : Nat) (a_o_prices : Nat) (a_o_free : Nat) (a_o_sizes : Nat) (a_o_limits : Nat) (a_o_places : Nat) (a_o_paid : Nat) (a_o_queue : Nat) (a_p1 : Nat) (a_p1_prices : Nat) (a_p1_free : Nat) (a_p1_sizes : Nat) (a_p1_limits : Nat) (a_p1_places : Nat) (a_p1_paid : Nat) (a_p1_queue : Nat) (v_o_asked : Int32) (v_o_waiting : Int32) (v_o_fee : Int32) (v_o_takings : Int32) (d_o_prices : (Nat → Int32)) (d_o_free : (Nat → Int32)) (d_o_sizes : (Nat → Int32)) (d_o_limits : (Nat → Int32)) (d_o_places : (Nat → Int32)) (d_o_paid : (Nat → Int32)) (d_o_queue : (Nat → Int32)) (v_p1_asked : Int32) (v_p1_waiting : Int32) (v_p1_fee : Int32) (v_p1_takings : Int32) (d_p1_prices : (Nat → Int32)) (d_p1_free : (Nat → Int32)) (d_p1_sizes : (Nat → Int32)) (d_p1_limits : (Nat → Int32)) (d_p1_places : (Nat → Int32)) (d_p1_paid : (Nat → Int32)) (d_p1_queue : (Nat → Int32)) (res : Int32 × Int32 × Int32 × Int32 × (Nat → Int32) × (Nat → Int32) × (Nat → Int32) × (Nat → Int32) × (Nat → Int32) × (Nat → Int32) × (Nat → Int32)) (hf : fX0_copyFrom v_o_asked v_o_waiting v_o_fee v_o_takings d_o_prices d_o_free d_o_sizes d_o_limits d_o_places d_o_paid d_o_queue v_p1_asked v_p1_waiting v_p1_fee v_p1_takings d_p1_prices d_p1_free d_p1_sizes d_p1_limits d_p1_places d_p1_paid d_p1_queue = some res) : Rw l yX0_copyFrom wsX0_copyFrom ({ frames := 1, cells := 0, slots := 0, locals := 40 } : Room) D (tyL cI cJ cZ cB) [.ref a_o, .ref a_p1] (WX0_copyFrom cI cJ cZ cB a_o a_o_prices a_o_free a_o_sizes a_o_limits a_o_places a_o_paid a_o_queue a_p1 a_p1_prices a_p1_free a_p1_sizes a_p1_limits a_p1_places a_p1_paid a_p1_queue v_o_asked v_o_waiting v_o_fee v_o_takings d_o_prices d_o_free d_o_sizes d_o_limits d_o_places d_o_paid d_o_queue v_p1_asked v_p1_waiting v_p1_fee v_p1_takings d_p1_prices d_p1_free d_p1_sizes d_p1_limits d_p1_places d_p1_paid d_p1_queue) none (WX0_copyFrom cI cJ cZ cB a_o a_o_prices a_o_free a_o_sizes a_o_limits a_o_places a_o_paid a_o_queue a_p1 a_p1_prices a_p1_free a_p1_sizes a_p1_limits a_p1_places a_p1_paid a_p1_queue res.1 res.2.1 res.2.2.1 res.2.2.2.1 res.2.2.2.2.1 res.2.2.2.2.2.1 res.2.2.2.2.2.2.1 res.2.2.2.2.2.2.2.1 res.2.2.2.2.2.2.2.2.1 res.2.2.2.2.2.2.2.2.2.1 res.2.2.2.2.2.2.2.2.2.2 v_p1_asked v_p1_waiting v_p1_fee v_p1_takings d_p1_prices d_p1_free d_p1_sizes d_p1_limits d_p1_places d_p1_paid d_p1_queue) := by
  refine Rw.of (cc := cX0_copyFrom) (maxL := 2) (ret := none) (own := RX0) (by decide) rfl rfl (Nat.le_of_ble_eq_true rfl) ?_
  intro p e s m below meth c A ls C hK hA hP hD hS hl
  obtain ⟨hx, hb, hr, hml, hts, hown, hlk⟩ := id C
  have hl : lv_has ls 2 [(0, .ref a_o), (1, .ref a_p1)] := hl
  unfold fX0_copyFrom at hf
  refine lv_aload_n hx hb dX0_copyFrom_0 rfl (lv_at hl 1 rfl) ?_
  refine lv_ifnonnull (tgt := 5) hx hb dX0_copyFrom_1 (by decide) ?_
  refine lv_aload_n hx hb dX0_copyFrom_5 rfl (lv_at hl 1 rfl) ?_
  refine va_get (D := D) (ci := 0) (v := .ref a_p1_prices) (C := RX0) (T := TX0) (N := 11) hx hb hts iX0_copyFrom_X0 hown hK.1 hP 8 rfl rfl 0 (by decide) (hts (.fieldLink RX0 9 "LoneSeats$Bookings" "prices" "[I") (by decide +kernel)) (fun _ h9 => h9) rfl dX0_copyFrom_6 ?_
  refine lv_iconst (v := (0 : Int32)) hx hb dX0_copyFrom_9 (by decide) ?_
  refine lv_aload_n hx hb dX0_copyFrom_10 rfl (lv_at hl 0 rfl) ?_
  refine va_get (D := D) (ci := 0) (v := .ref a_o_prices) (C := RX0) (T := TX0) (N := 11) hx hb hts iX0_copyFrom_X0 hown hK.1 hP 0 rfl rfl 0 (by decide) (hts (.fieldLink RX0 9 "LoneSeats$Bookings" "prices" "[I") (by decide +kernel)) (fun _ h9 => h9) rfl dX0_copyFrom_11 ?_
  refine lv_iconst (v := (0 : Int32)) hx hb dX0_copyFrom_14 (by decide) ?_
  refine lv_iconst (v := (4 : Int32)) hx hb dX0_copyFrom_15 (by decide) ?_
  refine va_copyi hx hb (hml.trans hl.1.symm) hown (hts (.methodLink RX0 59 arraycopyName) (by decide +kernel)) (hts (.native arraycopyName) (by decide +kernel)) (hts (.static arraycopyName) (by decide +kernel)) (hts (.initialized "java/lang/System") (by decide +kernel)) hK.1 hP hD hS 9 1 0 0 rfl rfl rfl rfl rfl (by decide) (by decide) (by decide) (by decide) (by decide) (fun _ _ => rfl) (Nat.le_of_ble_eq_true rfl) (by decide +kernel) dX0_copyFrom_16 (fun H locs hP hD hS => ?_)
  have hP : va_P D vwCl (WX0_copyFrom cI cJ cZ cB a_o a_o_prices a_o_free a_o_sizes a_o_limits a_o_places a_o_paid a_o_queue a_p1 a_p1_prices a_p1_free a_p1_sizes a_p1_limits a_p1_places a_p1_paid a_p1_queue v_o_asked v_o_waiting v_o_fee v_o_takings (va_cpy d_p1_prices d_o_prices ((0 : Int32)).toNatClampNeg ((0 : Int32)).toNatClampNeg ((4 : Int32)).toNatClampNeg) d_o_free d_o_sizes d_o_limits d_o_places d_o_paid d_o_queue v_p1_asked v_p1_waiting v_p1_fee v_p1_takings d_p1_prices d_p1_free d_p1_sizes d_p1_limits d_p1_places d_p1_paid d_p1_queue) H := hP
  have hD : va_D A (WX0_copyFrom cI cJ cZ cB a_o a_o_prices a_o_free a_o_sizes a_o_limits a_o_places a_o_paid a_o_queue a_p1 a_p1_prices a_p1_free a_p1_sizes a_p1_limits a_p1_places a_p1_paid a_p1_queue v_o_asked v_o_waiting v_o_fee v_o_takings (va_cpy d_p1_prices d_o_prices ((0 : Int32)).toNatClampNeg ((0 : Int32)).toNatClampNeg ((4 : Int32)).toNatClampNeg) d_o_free d_o_sizes d_o_limits d_o_places d_o_paid d_o_queue v_p1_asked v_p1_waiting v_p1_fee v_p1_takings d_p1_prices d_p1_free d_p1_sizes d_p1_limits d_p1_places d_p1_paid d_p1_queue) := hD
  refine lv_aload_n hx hb dX0_copyFrom_19 rfl (lv_at hl 1 rfl) ?_
  refine va_get (D := D) (ci := 0) (v := .ref a_p1_free) (C := RX0) (T := TX0) (N := 11) hx hb hts iX0_copyFrom_X0 hown hK.1 hP 8 rfl rfl 1 (by decide) (hts (.fieldLink RX0 15 "LoneSeats$Bookings" "free" "[I") (by decide +kernel)) (fun _ h9 => h9) rfl dX0_copyFrom_20 ?_
  refine lv_iconst (v := (0 : Int32)) hx hb dX0_copyFrom_23 (by decide) ?_
  refine lv_aload_n hx hb dX0_copyFrom_24 rfl (lv_at hl 0 rfl) ?_
  refine va_get (D := D) (ci := 0) (v := .ref a_o_free) (C := RX0) (T := TX0) (N := 11) hx hb hts iX0_copyFrom_X0 hown hK.1 hP 0 rfl rfl 1 (by decide) (hts (.fieldLink RX0 15 "LoneSeats$Bookings" "free" "[I") (by decide +kernel)) (fun _ h9 => h9) rfl dX0_copyFrom_25 ?_
  refine lv_iconst (v := (0 : Int32)) hx hb dX0_copyFrom_28 (by decide) ?_
  refine lv_iconst (v := (4 : Int32)) hx hb dX0_copyFrom_29 (by decide) ?_
  refine va_copyi hx hb (hml.trans hl.1.symm) hown (hts (.methodLink RX0 59 arraycopyName) (by decide +kernel)) (hts (.native arraycopyName) (by decide +kernel)) (hts (.static arraycopyName) (by decide +kernel)) (hts (.initialized "java/lang/System") (by decide +kernel)) hK.1 hP hD hS 10 2 0 0 rfl rfl rfl rfl rfl (by decide) (by decide) (by decide) (by decide) (by decide) (fun _ _ => rfl) (Nat.le_of_ble_eq_true rfl) (by decide +kernel) dX0_copyFrom_30 (fun H locs hP hD hS => ?_)
  have hP : va_P D vwCl (WX0_copyFrom cI cJ cZ cB a_o a_o_prices a_o_free a_o_sizes a_o_limits a_o_places a_o_paid a_o_queue a_p1 a_p1_prices a_p1_free a_p1_sizes a_p1_limits a_p1_places a_p1_paid a_p1_queue v_o_asked v_o_waiting v_o_fee v_o_takings (va_cpy d_p1_prices d_o_prices ((0 : Int32)).toNatClampNeg ((0 : Int32)).toNatClampNeg ((4 : Int32)).toNatClampNeg) (va_cpy d_p1_free d_o_free ((0 : Int32)).toNatClampNeg ((0 : Int32)).toNatClampNeg ((4 : Int32)).toNatClampNeg) d_o_sizes d_o_limits d_o_places d_o_paid d_o_queue v_p1_asked v_p1_waiting v_p1_fee v_p1_takings d_p1_prices d_p1_free d_p1_sizes d_p1_limits d_p1_places d_p1_paid d_p1_queue) H := hP
  have hD : va_D A (WX0_copyFrom cI cJ cZ cB a_o a_o_prices a_o_free a_o_sizes a_o_limits a_o_places a_o_paid a_o_queue a_p1 a_p1_prices a_p1_free a_p1_sizes a_p1_limits a_p1_places a_p1_paid a_p1_queue v_o_asked v_o_waiting v_o_fee v_o_takings (va_cpy d_p1_prices d_o_prices ((0 : Int32)).toNatClampNeg ((0 : Int32)).toNatClampNeg ((4 : Int32)).toNatClampNeg) (va_cpy d_p1_free d_o_free ((0 : Int32)).toNatClampNeg ((0 : Int32)).toNatClampNeg ((4 : Int32)).toNatClampNeg) d_o_sizes d_o_limits d_o_places d_o_paid d_o_queue v_p1_asked v_p1_waiting v_p1_fee v_p1_takings d_p1_prices d_p1_free d_p1_sizes d_p1_limits d_p1_places d_p1_paid d_p1_queue) := hD
  refine lv_aload_n hx hb dX0_copyFrom_33 rfl (lv_at hl 1 rfl) ?_
  refine va_get (D := D) (ci := 0) (v := .ref a_p1_sizes) (C := RX0) (T := TX0) (N := 11) hx hb hts iX0_copyFrom_X0 hown hK.1 hP 8 rfl rfl 2 (by decide) (hts (.fieldLink RX0 18 "LoneSeats$Bookings" "sizes" "[I") (by decide +kernel)) (fun _ h9 => h9) rfl dX0_copyFrom_34 ?_
  refine lv_iconst (v := (0 : Int32)) hx hb dX0_copyFrom_37 (by decide) ?_
  refine lv_aload_n hx hb dX0_copyFrom_38 rfl (lv_at hl 0 rfl) ?_
  refine va_get (D := D) (ci := 0) (v := .ref a_o_sizes) (C := RX0) (T := TX0) (N := 11) hx hb hts iX0_copyFrom_X0 hown hK.1 hP 0 rfl rfl 2 (by decide) (hts (.fieldLink RX0 18 "LoneSeats$Bookings" "sizes" "[I") (by decide +kernel)) (fun _ h9 => h9) rfl dX0_copyFrom_39 ?_
  refine lv_iconst (v := (0 : Int32)) hx hb dX0_copyFrom_42 (by decide) ?_
  refine lv_bipush (v := (31 : Int32)) hx hb dX0_copyFrom_43 (by decide) ?_
  refine va_copyi hx hb (hml.trans hl.1.symm) hown (hts (.methodLink RX0 59 arraycopyName) (by decide +kernel)) (hts (.native arraycopyName) (by decide +kernel)) (hts (.static arraycopyName) (by decide +kernel)) (hts (.initialized "java/lang/System") (by decide +kernel)) hK.1 hP hD hS 11 3 0 0 rfl rfl rfl rfl rfl (by decide) (by decide) (by decide) (by decide) (by decide) (fun _ _ => rfl) (Nat.le_of_ble_eq_true rfl) (by decide +kernel) dX0_copyFrom_45 (fun H locs hP hD hS => ?_)
  have hP : va_P D vwCl (WX0_copyFrom cI cJ cZ cB a_o a_o_prices a_o_free a_o_sizes a_o_limits a_o_places a_o_paid a_o_queue a_p1 a_p1_prices a_p1_free a_p1_sizes a_p1_limits a_p1_places a_p1_paid a_p1_queue v_o_asked v_o_waiting v_o_fee v_o_takings (va_cpy d_p1_prices d_o_prices ((0 : Int32)).toNatClampNeg ((0 : Int32)).toNatClampNeg ((4 : Int32)).toNatClampNeg) (va_cpy d_p1_free d_o_free ((0 : Int32)).toNatClampNeg ((0 : Int32)).toNatClampNeg ((4 : Int32)).toNatClampNeg) (va_cpy d_p1_sizes d_o_sizes ((0 : Int32)).toNatClampNeg ((0 : Int32)).toNatClampNeg ((31 : Int32)).toNatClampNeg) d_o_limits d_o_places d_o_paid d_o_queue v_p1_asked v_p1_waiting v_p1_fee v_p1_takings d_p1_prices d_p1_free d_p1_sizes d_p1_limits d_p1_places d_p1_paid d_p1_queue) H := hP
  have hD : va_D A (WX0_copyFrom cI cJ cZ cB a_o a_o_prices a_o_free a_o_sizes a_o_limits a_o_places a_o_paid a_o_queue a_p1 a_p1_prices a_p1_free a_p1_sizes a_p1_limits a_p1_places a_p1_paid a_p1_queue v_o_asked v_o_waiting v_o_fee v_o_takings (va_cpy d_p1_prices d_o_prices ((0 : Int32)).toNatClampNeg ((0 : Int32)).toNatClampNeg ((4 : Int32)).toNatClampNeg) (va_cpy d_p1_free d_o_free ((0 : Int32)).toNatClampNeg ((0 : Int32)).toNatClampNeg ((4 : Int32)).toNatClampNeg) (va_cpy d_p1_sizes d_o_sizes ((0 : Int32)).toNatClampNeg ((0 : Int32)).toNatClampNeg ((31 : Int32)).toNatClampNeg) d_o_limits d_o_places d_o_paid d_o_queue v_p1_asked v_p1_waiting v_p1_fee v_p1_takings d_p1_prices d_p1_free d_p1_sizes d_p1_limits d_p1_places d_p1_paid d_p1_queue) := hD
  refine lv_aload_n hx hb dX0_copyFrom_48 rfl (lv_at hl 1 rfl) ?_
  refine va_get (D := D) (ci := 0) (v := .ref a_p1_limits) (C := RX0) (T := TX0) (N := 11) hx hb hts iX0_copyFrom_X0 hown hK.1 hP 8 rfl rfl 3 (by decide) (hts (.fieldLink RX0 21 "LoneSeats$Bookings" "limits" "[I") (by decide +kernel)) (fun _ h9 => h9) rfl dX0_copyFrom_49 ?_
  refine lv_iconst (v := (0 : Int32)) hx hb dX0_copyFrom_52 (by decide) ?_
  refine lv_aload_n hx hb dX0_copyFrom_53 rfl (lv_at hl 0 rfl) ?_
  refine va_get (D := D) (ci := 0) (v := .ref a_o_limits) (C := RX0) (T := TX0) (N := 11) hx hb hts iX0_copyFrom_X0 hown hK.1 hP 0 rfl rfl 3 (by decide) (hts (.fieldLink RX0 21 "LoneSeats$Bookings" "limits" "[I") (by decide +kernel)) (fun _ h9 => h9) rfl dX0_copyFrom_54 ?_
  refine lv_iconst (v := (0 : Int32)) hx hb dX0_copyFrom_57 (by decide) ?_
  refine lv_bipush (v := (31 : Int32)) hx hb dX0_copyFrom_58 (by decide) ?_
  refine va_copyi hx hb (hml.trans hl.1.symm) hown (hts (.methodLink RX0 59 arraycopyName) (by decide +kernel)) (hts (.native arraycopyName) (by decide +kernel)) (hts (.static arraycopyName) (by decide +kernel)) (hts (.initialized "java/lang/System") (by decide +kernel)) hK.1 hP hD hS 12 4 0 0 rfl rfl rfl rfl rfl (by decide) (by decide) (by decide) (by decide) (by decide) (fun _ _ => rfl) (Nat.le_of_ble_eq_true rfl) (by decide +kernel) dX0_copyFrom_60 (fun H locs hP hD hS => ?_)
  have hP : va_P D vwCl (WX0_copyFrom cI cJ cZ cB a_o a_o_prices a_o_free a_o_sizes a_o_limits a_o_places a_o_paid a_o_queue a_p1 a_p1_prices a_p1_free a_p1_sizes a_p1_limits a_p1_places a_p1_paid a_p1_queue v_o_asked v_o_waiting v_o_fee v_o_takings (va_cpy d_p1_prices d_o_prices ((0 : Int32)).toNatClampNeg ((0 : Int32)).toNatClampNeg ((4 : Int32)).toNatClampNeg) (va_cpy d_p1_free d_o_free ((0 : Int32)).toNatClampNeg ((0 : Int32)).toNatClampNeg ((4 : Int32)).toNatClampNeg) (va_cpy d_p1_sizes d_o_sizes ((0 : Int32)).toNatClampNeg ((0 : Int32)).toNatClampNeg ((31 : Int32)).toNatClampNeg) (va_cpy d_p1_limits d_o_limits ((0 : Int32)).toNatClampNeg ((0 : Int32)).toNatClampNeg ((31 : Int32)).toNatClampNeg) d_o_places d_o_paid d_o_queue v_p1_asked v_p1_waiting v_p1_fee v_p1_takings d_p1_prices d_p1_free d_p1_sizes d_p1_limits d_p1_places d_p1_paid d_p1_queue) H := hP
  have hD : va_D A (WX0_copyFrom cI cJ cZ cB a_o a_o_prices a_o_free a_o_sizes a_o_limits a_o_places a_o_paid a_o_queue a_p1 a_p1_prices a_p1_free a_p1_sizes a_p1_limits a_p1_places a_p1_paid a_p1_queue v_o_asked v_o_waiting v_o_fee v_o_takings (va_cpy d_p1_prices d_o_prices ((0 : Int32)).toNatClampNeg ((0 : Int32)).toNatClampNeg ((4 : Int32)).toNatClampNeg) (va_cpy d_p1_free d_o_free ((0 : Int32)).toNatClampNeg ((0 : Int32)).toNatClampNeg ((4 : Int32)).toNatClampNeg) (va_cpy d_p1_sizes d_o_sizes ((0 : Int32)).toNatClampNeg ((0 : Int32)).toNatClampNeg ((31 : Int32)).toNatClampNeg) (va_cpy d_p1_limits d_o_limits ((0 : Int32)).toNatClampNeg ((0 : Int32)).toNatClampNeg ((31 : Int32)).toNatClampNeg) d_o_places d_o_paid d_o_queue v_p1_asked v_p1_waiting v_p1_fee v_p1_takings d_p1_prices d_p1_free d_p1_sizes d_p1_limits d_p1_places d_p1_paid d_p1_queue) := hD
  refine lv_aload_n hx hb dX0_copyFrom_63 rfl (lv_at hl 1 rfl) ?_
  refine va_get (D := D) (ci := 0) (v := .ref a_p1_places) (C := RX0) (T := TX0) (N := 11) hx hb hts iX0_copyFrom_X0 hown hK.1 hP 8 rfl rfl 4 (by decide) (hts (.fieldLink RX0 24 "LoneSeats$Bookings" "places" "[I") (by decide +kernel)) (fun _ h9 => h9) rfl dX0_copyFrom_64 ?_
  refine lv_iconst (v := (0 : Int32)) hx hb dX0_copyFrom_67 (by decide) ?_
  refine lv_aload_n hx hb dX0_copyFrom_68 rfl (lv_at hl 0 rfl) ?_
  refine va_get (D := D) (ci := 0) (v := .ref a_o_places) (C := RX0) (T := TX0) (N := 11) hx hb hts iX0_copyFrom_X0 hown hK.1 hP 0 rfl rfl 4 (by decide) (hts (.fieldLink RX0 24 "LoneSeats$Bookings" "places" "[I") (by decide +kernel)) (fun _ h9 => h9) rfl dX0_copyFrom_69 ?_
  refine lv_iconst (v := (0 : Int32)) hx hb dX0_copyFrom_72 (by decide) ?_
  refine lv_bipush (v := (31 : Int32)) hx hb dX0_copyFrom_73 (by decide) ?_
  refine va_copyi hx hb (hml.trans hl.1.symm) hown (hts (.methodLink RX0 59 arraycopyName) (by decide +kernel)) (hts (.native arraycopyName) (by decide +kernel)) (hts (.static arraycopyName) (by decide +kernel)) (hts (.initialized "java/lang/System") (by decide +kernel)) hK.1 hP hD hS 13 5 0 0 rfl rfl rfl rfl rfl (by decide) (by decide) (by decide) (by decide) (by decide) (fun _ _ => rfl) (Nat.le_of_ble_eq_true rfl) (by decide +kernel) dX0_copyFrom_75 (fun H locs hP hD hS => ?_)
  have hP : va_P D vwCl (WX0_copyFrom cI cJ cZ cB a_o a_o_prices a_o_free a_o_sizes a_o_limits a_o_places a_o_paid a_o_queue a_p1 a_p1_prices a_p1_free a_p1_sizes a_p1_limits a_p1_places a_p1_paid a_p1_queue v_o_asked v_o_waiting v_o_fee v_o_takings (va_cpy d_p1_prices d_o_prices ((0 : Int32)).toNatClampNeg ((0 : Int32)).toNatClampNeg ((4 : Int32)).toNatClampNeg) (va_cpy d_p1_free d_o_free ((0 : Int32)).toNatClampNeg ((0 : Int32)).toNatClampNeg ((4 : Int32)).toNatClampNeg) (va_cpy d_p1_sizes d_o_sizes ((0 : Int32)).toNatClampNeg ((0 : Int32)).toNatClampNeg ((31 : Int32)).toNatClampNeg) (va_cpy d_p1_limits d_o_limits ((0 : Int32)).toNatClampNeg ((0 : Int32)).toNatClampNeg ((31 : Int32)).toNatClampNeg) (va_cpy d_p1_places d_o_places ((0 : Int32)).toNatClampNeg ((0 : Int32)).toNatClampNeg ((31 : Int32)).toNatClampNeg) d_o_paid d_o_queue v_p1_asked v_p1_waiting v_p1_fee v_p1_takings d_p1_prices d_p1_free d_p1_sizes d_p1_limits d_p1_places d_p1_paid d_p1_queue) H := hP
  have hD : va_D A (WX0_copyFrom cI cJ cZ cB a_o a_o_prices a_o_free a_o_sizes a_o_limits a_o_places a_o_paid a_o_queue a_p1 a_p1_prices a_p1_free a_p1_sizes a_p1_limits a_p1_places a_p1_paid a_p1_queue v_o_asked v_o_waiting v_o_fee v_o_takings (va_cpy d_p1_prices d_o_prices ((0 : Int32)).toNatClampNeg ((0 : Int32)).toNatClampNeg ((4 : Int32)).toNatClampNeg) (va_cpy d_p1_free d_o_free ((0 : Int32)).toNatClampNeg ((0 : Int32)).toNatClampNeg ((4 : Int32)).toNatClampNeg) (va_cpy d_p1_sizes d_o_sizes ((0 : Int32)).toNatClampNeg ((0 : Int32)).toNatClampNeg ((31 : Int32)).toNatClampNeg) (va_cpy d_p1_limits d_o_limits ((0 : Int32)).toNatClampNeg ((0 : Int32)).toNatClampNeg ((31 : Int32)).toNatClampNeg) (va_cpy d_p1_places d_o_places ((0 : Int32)).toNatClampNeg ((0 : Int32)).toNatClampNeg ((31 : Int32)).toNatClampNeg) d_o_paid d_o_queue v_p1_asked v_p1_waiting v_p1_fee v_p1_takings d_p1_prices d_p1_free d_p1_sizes d_p1_limits d_p1_places d_p1_paid d_p1_queue) := hD
  refine lv_aload_n hx hb dX0_copyFrom_78 rfl (lv_at hl 1 rfl) ?_
  refine va_get (D := D) (ci := 0) (v := .ref a_p1_paid) (C := RX0) (T := TX0) (N := 11) hx hb hts iX0_copyFrom_X0 hown hK.1 hP 8 rfl rfl 5 (by decide) (hts (.fieldLink RX0 27 "LoneSeats$Bookings" "paid" "[I") (by decide +kernel)) (fun _ h9 => h9) rfl dX0_copyFrom_79 ?_
  refine lv_iconst (v := (0 : Int32)) hx hb dX0_copyFrom_82 (by decide) ?_
  refine lv_aload_n hx hb dX0_copyFrom_83 rfl (lv_at hl 0 rfl) ?_
  refine va_get (D := D) (ci := 0) (v := .ref a_o_paid) (C := RX0) (T := TX0) (N := 11) hx hb hts iX0_copyFrom_X0 hown hK.1 hP 0 rfl rfl 5 (by decide) (hts (.fieldLink RX0 27 "LoneSeats$Bookings" "paid" "[I") (by decide +kernel)) (fun _ h9 => h9) rfl dX0_copyFrom_84 ?_
  refine lv_iconst (v := (0 : Int32)) hx hb dX0_copyFrom_87 (by decide) ?_
  refine lv_bipush (v := (31 : Int32)) hx hb dX0_copyFrom_88 (by decide) ?_
  refine va_copyi hx hb (hml.trans hl.1.symm) hown (hts (.methodLink RX0 59 arraycopyName) (by decide +kernel)) (hts (.native arraycopyName) (by decide +kernel)) (hts (.static arraycopyName) (by decide +kernel)) (hts (.initialized "java/lang/System") (by decide +kernel)) hK.1 hP hD hS 14 6 0 0 rfl rfl rfl rfl rfl (by decide) (by decide) (by decide) (by decide) (by decide) (fun _ _ => rfl) (Nat.le_of_ble_eq_true rfl) (by decide +kernel) dX0_copyFrom_90 (fun H locs hP hD hS => ?_)
  have hP : va_P D vwCl (WX0_copyFrom cI cJ cZ cB a_o a_o_prices a_o_free a_o_sizes a_o_limits a_o_places a_o_paid a_o_queue a_p1 a_p1_prices a_p1_free a_p1_sizes a_p1_limits a_p1_places a_p1_paid a_p1_queue v_o_asked v_o_waiting v_o_fee v_o_takings (va_cpy d_p1_prices d_o_prices ((0 : Int32)).toNatClampNeg ((0 : Int32)).toNatClampNeg ((4 : Int32)).toNatClampNeg) (va_cpy d_p1_free d_o_free ((0 : Int32)).toNatClampNeg ((0 : Int32)).toNatClampNeg ((4 : Int32)).toNatClampNeg) (va_cpy d_p1_sizes d_o_sizes ((0 : Int32)).toNatClampNeg ((0 : Int32)).toNatClampNeg ((31 : Int32)).toNatClampNeg) (va_cpy d_p1_limits d_o_limits ((0 : Int32)).toNatClampNeg ((0 : Int32)).toNatClampNeg ((31 : Int32)).toNatClampNeg) (va_cpy d_p1_places d_o_places ((0 : Int32)).toNatClampNeg ((0 : Int32)).toNatClampNeg ((31 : Int32)).toNatClampNeg) (va_cpy d_p1_paid d_o_paid ((0 : Int32)).toNatClampNeg ((0 : Int32)).toNatClampNeg ((31 : Int32)).toNatClampNeg) d_o_queue v_p1_asked v_p1_waiting v_p1_fee v_p1_takings d_p1_prices d_p1_free d_p1_sizes d_p1_limits d_p1_places d_p1_paid d_p1_queue) H := hP
  have hD : va_D A (WX0_copyFrom cI cJ cZ cB a_o a_o_prices a_o_free a_o_sizes a_o_limits a_o_places a_o_paid a_o_queue a_p1 a_p1_prices a_p1_free a_p1_sizes a_p1_limits a_p1_places a_p1_paid a_p1_queue v_o_asked v_o_waiting v_o_fee v_o_takings (va_cpy d_p1_prices d_o_prices ((0 : Int32)).toNatClampNeg ((0 : Int32)).toNatClampNeg ((4 : Int32)).toNatClampNeg) (va_cpy d_p1_free d_o_free ((0 : Int32)).toNatClampNeg ((0 : Int32)).toNatClampNeg ((4 : Int32)).toNatClampNeg) (va_cpy d_p1_sizes d_o_sizes ((0 : Int32)).toNatClampNeg ((0 : Int32)).toNatClampNeg ((31 : Int32)).toNatClampNeg) (va_cpy d_p1_limits d_o_limits ((0 : Int32)).toNatClampNeg ((0 : Int32)).toNatClampNeg ((31 : Int32)).toNatClampNeg) (va_cpy d_p1_places d_o_places ((0 : Int32)).toNatClampNeg ((0 : Int32)).toNatClampNeg ((31 : Int32)).toNatClampNeg) (va_cpy d_p1_paid d_o_paid ((0 : Int32)).toNatClampNeg ((0 : Int32)).toNatClampNeg ((31 : Int32)).toNatClampNeg) d_o_queue v_p1_asked v_p1_waiting v_p1_fee v_p1_takings d_p1_prices d_p1_free d_p1_sizes d_p1_limits d_p1_places d_p1_paid d_p1_queue) := hD
  refine lv_aload_n hx hb dX0_copyFrom_93 rfl (lv_at hl 1 rfl) ?_
  refine va_get (D := D) (ci := 0) (v := .ref a_p1_queue) (C := RX0) (T := TX0) (N := 11) hx hb hts iX0_copyFrom_X0 hown hK.1 hP 8 rfl rfl 6 (by decide) (hts (.fieldLink RX0 30 "LoneSeats$Bookings" "queue" "[I") (by decide +kernel)) (fun _ h9 => h9) rfl dX0_copyFrom_94 ?_
  refine lv_iconst (v := (0 : Int32)) hx hb dX0_copyFrom_97 (by decide) ?_
  refine lv_aload_n hx hb dX0_copyFrom_98 rfl (lv_at hl 0 rfl) ?_
  refine va_get (D := D) (ci := 0) (v := .ref a_o_queue) (C := RX0) (T := TX0) (N := 11) hx hb hts iX0_copyFrom_X0 hown hK.1 hP 0 rfl rfl 6 (by decide) (hts (.fieldLink RX0 30 "LoneSeats$Bookings" "queue" "[I") (by decide +kernel)) (fun _ h9 => h9) rfl dX0_copyFrom_99 ?_
  refine lv_iconst (v := (0 : Int32)) hx hb dX0_copyFrom_102 (by decide) ?_
  refine lv_iconst (v := (5 : Int32)) hx hb dX0_copyFrom_103 (by decide) ?_
  refine va_copyi hx hb (hml.trans hl.1.symm) hown (hts (.methodLink RX0 59 arraycopyName) (by decide +kernel)) (hts (.native arraycopyName) (by decide +kernel)) (hts (.static arraycopyName) (by decide +kernel)) (hts (.initialized "java/lang/System") (by decide +kernel)) hK.1 hP hD hS 15 7 0 0 rfl rfl rfl rfl rfl (by decide) (by decide) (by decide) (by decide) (by decide) (fun _ _ => rfl) (Nat.le_of_ble_eq_true rfl) (by decide +kernel) dX0_copyFrom_104 (fun H locs hP hD hS => ?_)
  have hP : va_P D vwCl (WX0_copyFrom cI cJ cZ cB a_o a_o_prices a_o_free a_o_sizes a_o_limits a_o_places a_o_paid a_o_queue a_p1 a_p1_prices a_p1_free a_p1_sizes a_p1_limits a_p1_places a_p1_paid a_p1_queue v_o_asked v_o_waiting v_o_fee v_o_takings (va_cpy d_p1_prices d_o_prices ((0 : Int32)).toNatClampNeg ((0 : Int32)).toNatClampNeg ((4 : Int32)).toNatClampNeg) (va_cpy d_p1_free d_o_free ((0 : Int32)).toNatClampNeg ((0 : Int32)).toNatClampNeg ((4 : Int32)).toNatClampNeg) (va_cpy d_p1_sizes d_o_sizes ((0 : Int32)).toNatClampNeg ((0 : Int32)).toNatClampNeg ((31 : Int32)).toNatClampNeg) (va_cpy d_p1_limits d_o_limits ((0 : Int32)).toNatClampNeg ((0 : Int32)).toNatClampNeg ((31 : Int32)).toNatClampNeg) (va_cpy d_p1_places d_o_places ((0 : Int32)).toNatClampNeg ((0 : Int32)).toNatClampNeg ((31 : Int32)).toNatClampNeg) (va_cpy d_p1_paid d_o_paid ((0 : Int32)).toNatClampNeg ((0 : Int32)).toNatClampNeg ((31 : Int32)).toNatClampNeg) (va_cpy d_p1_queue d_o_queue ((0 : Int32)).toNatClampNeg ((0 : Int32)).toNatClampNeg ((5 : Int32)).toNatClampNeg) v_p1_asked v_p1_waiting v_p1_fee v_p1_takings d_p1_prices d_p1_free d_p1_sizes d_p1_limits d_p1_places d_p1_paid d_p1_queue) H := hP
  have hD : va_D A (WX0_copyFrom cI cJ cZ cB a_o a_o_prices a_o_free a_o_sizes a_o_limits a_o_places a_o_paid a_o_queue a_p1 a_p1_prices a_p1_free a_p1_sizes a_p1_limits a_p1_places a_p1_paid a_p1_queue v_o_asked v_o_waiting v_o_fee v_o_takings (va_cpy d_p1_prices d_o_prices ((0 : Int32)).toNatClampNeg ((0 : Int32)).toNatClampNeg ((4 : Int32)).toNatClampNeg) (va_cpy d_p1_free d_o_free ((0 : Int32)).toNatClampNeg ((0 : Int32)).toNatClampNeg ((4 : Int32)).toNatClampNeg) (va_cpy d_p1_sizes d_o_sizes ((0 : Int32)).toNatClampNeg ((0 : Int32)).toNatClampNeg ((31 : Int32)).toNatClampNeg) (va_cpy d_p1_limits d_o_limits ((0 : Int32)).toNatClampNeg ((0 : Int32)).toNatClampNeg ((31 : Int32)).toNatClampNeg) (va_cpy d_p1_places d_o_places ((0 : Int32)).toNatClampNeg ((0 : Int32)).toNatClampNeg ((31 : Int32)).toNatClampNeg) (va_cpy d_p1_paid d_o_paid ((0 : Int32)).toNatClampNeg ((0 : Int32)).toNatClampNeg ((31 : Int32)).toNatClampNeg) (va_cpy d_p1_queue d_o_queue ((0 : Int32)).toNatClampNeg ((0 : Int32)).toNatClampNeg ((5 : Int32)).toNatClampNeg) v_p1_asked v_p1_waiting v_p1_fee v_p1_takings d_p1_prices d_p1_free d_p1_sizes d_p1_limits d_p1_places d_p1_paid d_p1_queue) := hD
  refine lv_aload_n hx hb dX0_copyFrom_107 rfl (lv_at hl 0 rfl) ?_
  refine lv_aload_n hx hb dX0_copyFrom_108 rfl (lv_at hl 1 rfl) ?_
  refine va_get (D := D) (ci := 0) (v := .int v_p1_asked) (C := RX0) (T := TX0) (N := 11) hx hb hts iX0_copyFrom_X0 hown hK.1 hP 8 rfl rfl 7 (by decide) (hts (.fieldLink RX0 46 "LoneSeats$Bookings" "asked" "I") (by decide +kernel)) (fun _ h9 => h9) rfl dX0_copyFrom_109 ?_
  refine va_put (D := D) (ci := 0) (v := .int v_p1_asked) (ty := .int) (C := RX0) (T := TX0) (N := 11) hx hb hts iX0_copyFrom_X0 tyX0 tyX0_ok nmX0 hown hK.1 hP hD hS 0 rfl rfl 7 (by decide) (hts (.fieldLink RX0 46 "LoneSeats$Bookings" "asked" "I") (by decide +kernel)) (fun _ h9 => h9) rfl (by decide +kernel) rfl rfl (Nat.le_of_ble_eq_true rfl) dX0_copyFrom_112 (fun H locs hP hD hS => ?_)
  have hP : va_P D vwCl (WX0_copyFrom cI cJ cZ cB a_o a_o_prices a_o_free a_o_sizes a_o_limits a_o_places a_o_paid a_o_queue a_p1 a_p1_prices a_p1_free a_p1_sizes a_p1_limits a_p1_places a_p1_paid a_p1_queue v_p1_asked v_o_waiting v_o_fee v_o_takings (va_cpy d_p1_prices d_o_prices ((0 : Int32)).toNatClampNeg ((0 : Int32)).toNatClampNeg ((4 : Int32)).toNatClampNeg) (va_cpy d_p1_free d_o_free ((0 : Int32)).toNatClampNeg ((0 : Int32)).toNatClampNeg ((4 : Int32)).toNatClampNeg) (va_cpy d_p1_sizes d_o_sizes ((0 : Int32)).toNatClampNeg ((0 : Int32)).toNatClampNeg ((31 : Int32)).toNatClampNeg) (va_cpy d_p1_limits d_o_limits ((0 : Int32)).toNatClampNeg ((0 : Int32)).toNatClampNeg ((31 : Int32)).toNatClampNeg) (va_cpy d_p1_places d_o_places ((0 : Int32)).toNatClampNeg ((0 : Int32)).toNatClampNeg ((31 : Int32)).toNatClampNeg) (va_cpy d_p1_paid d_o_paid ((0 : Int32)).toNatClampNeg ((0 : Int32)).toNatClampNeg ((31 : Int32)).toNatClampNeg) (va_cpy d_p1_queue d_o_queue ((0 : Int32)).toNatClampNeg ((0 : Int32)).toNatClampNeg ((5 : Int32)).toNatClampNeg) v_p1_asked v_p1_waiting v_p1_fee v_p1_takings d_p1_prices d_p1_free d_p1_sizes d_p1_limits d_p1_places d_p1_paid d_p1_queue) H := hP
  have hD : va_D A (WX0_copyFrom cI cJ cZ cB a_o a_o_prices a_o_free a_o_sizes a_o_limits a_o_places a_o_paid a_o_queue a_p1 a_p1_prices a_p1_free a_p1_sizes a_p1_limits a_p1_places a_p1_paid a_p1_queue v_p1_asked v_o_waiting v_o_fee v_o_takings (va_cpy d_p1_prices d_o_prices ((0 : Int32)).toNatClampNeg ((0 : Int32)).toNatClampNeg ((4 : Int32)).toNatClampNeg) (va_cpy d_p1_free d_o_free ((0 : Int32)).toNatClampNeg ((0 : Int32)).toNatClampNeg ((4 : Int32)).toNatClampNeg) (va_cpy d_p1_sizes d_o_sizes ((0 : Int32)).toNatClampNeg ((0 : Int32)).toNatClampNeg ((31 : Int32)).toNatClampNeg) (va_cpy d_p1_limits d_o_limits ((0 : Int32)).toNatClampNeg ((0 : Int32)).toNatClampNeg ((31 : Int32)).toNatClampNeg) (va_cpy d_p1_places d_o_places ((0 : Int32)).toNatClampNeg ((0 : Int32)).toNatClampNeg ((31 : Int32)).toNatClampNeg) (va_cpy d_p1_paid d_o_paid ((0 : Int32)).toNatClampNeg ((0 : Int32)).toNatClampNeg ((31 : Int32)).toNatClampNeg) (va_cpy d_p1_queue d_o_queue ((0 : Int32)).toNatClampNeg ((0 : Int32)).toNatClampNeg ((5 : Int32)).toNatClampNeg) v_p1_asked v_p1_waiting v_p1_fee v_p1_takings d_p1_prices d_p1_free d_p1_sizes d_p1_limits d_p1_places d_p1_paid d_p1_queue) := hD
  refine lv_aload_n hx hb dX0_copyFrom_115 rfl (lv_at hl 0 rfl) ?_
  refine lv_aload_n hx hb dX0_copyFrom_116 rfl (lv_at hl 1 rfl) ?_
  refine va_get (D := D) (ci := 0) (v := .int v_p1_waiting) (C := RX0) (T := TX0) (N := 11) hx hb hts iX0_copyFrom_X0 hown hK.1 hP 8 rfl rfl 8 (by decide) (hts (.fieldLink RX0 50 "LoneSeats$Bookings" "waiting" "I") (by decide +kernel)) (fun _ h9 => h9) rfl dX0_copyFrom_117 ?_
  refine va_put (D := D) (ci := 0) (v := .int v_p1_waiting) (ty := .int) (C := RX0) (T := TX0) (N := 11) hx hb hts iX0_copyFrom_X0 tyX0 tyX0_ok nmX0 hown hK.1 hP hD hS 0 rfl rfl 8 (by decide) (hts (.fieldLink RX0 50 "LoneSeats$Bookings" "waiting" "I") (by decide +kernel)) (fun _ h9 => h9) rfl (by decide +kernel) rfl rfl (Nat.le_of_ble_eq_true rfl) dX0_copyFrom_120 (fun H locs hP hD hS => ?_)
  have hP : va_P D vwCl (WX0_copyFrom cI cJ cZ cB a_o a_o_prices a_o_free a_o_sizes a_o_limits a_o_places a_o_paid a_o_queue a_p1 a_p1_prices a_p1_free a_p1_sizes a_p1_limits a_p1_places a_p1_paid a_p1_queue v_p1_asked v_p1_waiting v_o_fee v_o_takings (va_cpy d_p1_prices d_o_prices ((0 : Int32)).toNatClampNeg ((0 : Int32)).toNatClampNeg ((4 : Int32)).toNatClampNeg) (va_cpy d_p1_free d_o_free ((0 : Int32)).toNatClampNeg ((0 : Int32)).toNatClampNeg ((4 : Int32)).toNatClampNeg) (va_cpy d_p1_sizes d_o_sizes ((0 : Int32)).toNatClampNeg ((0 : Int32)).toNatClampNeg ((31 : Int32)).toNatClampNeg) (va_cpy d_p1_limits d_o_limits ((0 : Int32)).toNatClampNeg ((0 : Int32)).toNatClampNeg ((31 : Int32)).toNatClampNeg) (va_cpy d_p1_places d_o_places ((0 : Int32)).toNatClampNeg ((0 : Int32)).toNatClampNeg ((31 : Int32)).toNatClampNeg) (va_cpy d_p1_paid d_o_paid ((0 : Int32)).toNatClampNeg ((0 : Int32)).toNatClampNeg ((31 : Int32)).toNatClampNeg) (va_cpy d_p1_queue d_o_queue ((0 : Int32)).toNatClampNeg ((0 : Int32)).toNatClampNeg ((5 : Int32)).toNatClampNeg) v_p1_asked v_p1_waiting v_p1_fee v_p1_takings d_p1_prices d_p1_free d_p1_sizes d_p1_limits d_p1_places d_p1_paid d_p1_queue) H := hP
  have hD : va_D A (WX0_copyFrom cI cJ cZ cB a_o a_o_prices a_o_free a_o_sizes a_o_limits a_o_places a_o_paid a_o_queue a_p1 a_p1_prices a_p1_free a_p1_sizes a_p1_limits a_p1_places a_p1_paid a_p1_queue v_p1_asked v_p1_waiting v_o_fee v_o_takings (va_cpy d_p1_prices d_o_prices ((0 : Int32)).toNatClampNeg ((0 : Int32)).toNatClampNeg ((4 : Int32)).toNatClampNeg) (va_cpy d_p1_free d_o_free ((0 : Int32)).toNatClampNeg ((0 : Int32)).toNatClampNeg ((4 : Int32)).toNatClampNeg) (va_cpy d_p1_sizes d_o_sizes ((0 : Int32)).toNatClampNeg ((0 : Int32)).toNatClampNeg ((31 : Int32)).toNatClampNeg) (va_cpy d_p1_limits d_o_limits ((0 : Int32)).toNatClampNeg ((0 : Int32)).toNatClampNeg ((31 : Int32)).toNatClampNeg) (va_cpy d_p1_places d_o_places ((0 : Int32)).toNatClampNeg ((0 : Int32)).toNatClampNeg ((31 : Int32)).toNatClampNeg) (va_cpy d_p1_paid d_o_paid ((0 : Int32)).toNatClampNeg ((0 : Int32)).toNatClampNeg ((31 : Int32)).toNatClampNeg) (va_cpy d_p1_queue d_o_queue ((0 : Int32)).toNatClampNeg ((0 : Int32)).toNatClampNeg ((5 : Int32)).toNatClampNeg) v_p1_asked v_p1_waiting v_p1_fee v_p1_takings d_p1_prices d_p1_free d_p1_sizes d_p1_limits d_p1_places d_p1_paid d_p1_queue) := hD
  refine lv_aload_n hx hb dX0_copyFrom_123 rfl (lv_at hl 0 rfl) ?_
  refine lv_aload_n hx hb dX0_copyFrom_124 rfl (lv_at hl 1 rfl) ?_
  refine va_get (D := D) (ci := 0) (v := .int v_p1_fee) (C := RX0) (T := TX0) (N := 11) hx hb hts iX0_copyFrom_X0 hown hK.1 hP 8 rfl rfl 9 (by decide) (hts (.fieldLink RX0 53 "LoneSeats$Bookings" "fee" "I") (by decide +kernel)) (fun _ h9 => h9) rfl dX0_copyFrom_125 ?_
  refine va_put (D := D) (ci := 0) (v := .int v_p1_fee) (ty := .int) (C := RX0) (T := TX0) (N := 11) hx hb hts iX0_copyFrom_X0 tyX0 tyX0_ok nmX0 hown hK.1 hP hD hS 0 rfl rfl 9 (by decide) (hts (.fieldLink RX0 53 "LoneSeats$Bookings" "fee" "I") (by decide +kernel)) (fun _ h9 => h9) rfl (by decide +kernel) rfl rfl (Nat.le_of_ble_eq_true rfl) dX0_copyFrom_128 (fun H locs hP hD hS => ?_)
  have hP : va_P D vwCl (WX0_copyFrom cI cJ cZ cB a_o a_o_prices a_o_free a_o_sizes a_o_limits a_o_places a_o_paid a_o_queue a_p1 a_p1_prices a_p1_free a_p1_sizes a_p1_limits a_p1_places a_p1_paid a_p1_queue v_p1_asked v_p1_waiting v_p1_fee v_o_takings (va_cpy d_p1_prices d_o_prices ((0 : Int32)).toNatClampNeg ((0 : Int32)).toNatClampNeg ((4 : Int32)).toNatClampNeg) (va_cpy d_p1_free d_o_free ((0 : Int32)).toNatClampNeg ((0 : Int32)).toNatClampNeg ((4 : Int32)).toNatClampNeg) (va_cpy d_p1_sizes d_o_sizes ((0 : Int32)).toNatClampNeg ((0 : Int32)).toNatClampNeg ((31 : Int32)).toNatClampNeg) (va_cpy d_p1_limits d_o_limits ((0 : Int32)).toNatClampNeg ((0 : Int32)).toNatClampNeg ((31 : Int32)).toNatClampNeg) (va_cpy d_p1_places d_o_places ((0 : Int32)).toNatClampNeg ((0 : Int32)).toNatClampNeg ((31 : Int32)).toNatClampNeg) (va_cpy d_p1_paid d_o_paid ((0 : Int32)).toNatClampNeg ((0 : Int32)).toNatClampNeg ((31 : Int32)).toNatClampNeg) (va_cpy d_p1_queue d_o_queue ((0 : Int32)).toNatClampNeg ((0 : Int32)).toNatClampNeg ((5 : Int32)).toNatClampNeg) v_p1_asked v_p1_waiting v_p1_fee v_p1_takings d_p1_prices d_p1_free d_p1_sizes d_p1_limits d_p1_places d_p1_paid d_p1_queue) H := hP
  have hD : va_D A (WX0_copyFrom cI cJ cZ cB a_o a_o_prices a_o_free a_o_sizes a_o_limits a_o_places a_o_paid a_o_queue a_p1 a_p1_prices a_p1_free a_p1_sizes a_p1_limits a_p1_places a_p1_paid a_p1_queue v_p1_asked v_p1_waiting v_p1_fee v_o_takings (va_cpy d_p1_prices d_o_prices ((0 : Int32)).toNatClampNeg ((0 : Int32)).toNatClampNeg ((4 : Int32)).toNatClampNeg) (va_cpy d_p1_free d_o_free ((0 : Int32)).toNatClampNeg ((0 : Int32)).toNatClampNeg ((4 : Int32)).toNatClampNeg) (va_cpy d_p1_sizes d_o_sizes ((0 : Int32)).toNatClampNeg ((0 : Int32)).toNatClampNeg ((31 : Int32)).toNatClampNeg) (va_cpy d_p1_limits d_o_limits ((0 : Int32)).toNatClampNeg ((0 : Int32)).toNatClampNeg ((31 : Int32)).toNatClampNeg) (va_cpy d_p1_places d_o_places ((0 : Int32)).toNatClampNeg ((0 : Int32)).toNatClampNeg ((31 : Int32)).toNatClampNeg) (va_cpy d_p1_paid d_o_paid ((0 : Int32)).toNatClampNeg ((0 : Int32)).toNatClampNeg ((31 : Int32)).toNatClampNeg) (va_cpy d_p1_queue d_o_queue ((0 : Int32)).toNatClampNeg ((0 : Int32)).toNatClampNeg ((5 : Int32)).toNatClampNeg) v_p1_asked v_p1_waiting v_p1_fee v_p1_takings d_p1_prices d_p1_free d_p1_sizes d_p1_limits d_p1_places d_p1_paid d_p1_queue) := hD
  refine lv_aload_n hx hb dX0_copyFrom_131 rfl (lv_at hl 0 rfl) ?_
  refine lv_aload_n hx hb dX0_copyFrom_132 rfl (lv_at hl 1 rfl) ?_
  refine va_get (D := D) (ci := 0) (v := .int v_p1_takings) (C := RX0) (T := TX0) (N := 11) hx hb hts iX0_copyFrom_X0 hown hK.1 hP 8 rfl rfl 10 (by decide) (hts (.fieldLink RX0 56 "LoneSeats$Bookings" "takings" "I") (by decide +kernel)) (fun _ h9 => h9) rfl dX0_copyFrom_133 ?_
  refine va_put (D := D) (ci := 0) (v := .int v_p1_takings) (ty := .int) (C := RX0) (T := TX0) (N := 11) hx hb hts iX0_copyFrom_X0 tyX0 tyX0_ok nmX0 hown hK.1 hP hD hS 0 rfl rfl 10 (by decide) (hts (.fieldLink RX0 56 "LoneSeats$Bookings" "takings" "I") (by decide +kernel)) (fun _ h9 => h9) rfl (by decide +kernel) rfl rfl (Nat.le_of_ble_eq_true rfl) dX0_copyFrom_136 (fun H locs hP hD hS => ?_)
  have hP : va_P D vwCl (WX0_copyFrom cI cJ cZ cB a_o a_o_prices a_o_free a_o_sizes a_o_limits a_o_places a_o_paid a_o_queue a_p1 a_p1_prices a_p1_free a_p1_sizes a_p1_limits a_p1_places a_p1_paid a_p1_queue v_p1_asked v_p1_waiting v_p1_fee v_p1_takings (va_cpy d_p1_prices d_o_prices ((0 : Int32)).toNatClampNeg ((0 : Int32)).toNatClampNeg ((4 : Int32)).toNatClampNeg) (va_cpy d_p1_free d_o_free ((0 : Int32)).toNatClampNeg ((0 : Int32)).toNatClampNeg ((4 : Int32)).toNatClampNeg) (va_cpy d_p1_sizes d_o_sizes ((0 : Int32)).toNatClampNeg ((0 : Int32)).toNatClampNeg ((31 : Int32)).toNatClampNeg) (va_cpy d_p1_limits d_o_limits ((0 : Int32)).toNatClampNeg ((0 : Int32)).toNatClampNeg ((31 : Int32)).toNatClampNeg) (va_cpy d_p1_places d_o_places ((0 : Int32)).toNatClampNeg ((0 : Int32)).toNatClampNeg ((31 : Int32)).toNatClampNeg) (va_cpy d_p1_paid d_o_paid ((0 : Int32)).toNatClampNeg ((0 : Int32)).toNatClampNeg ((31 : Int32)).toNatClampNeg) (va_cpy d_p1_queue d_o_queue ((0 : Int32)).toNatClampNeg ((0 : Int32)).toNatClampNeg ((5 : Int32)).toNatClampNeg) v_p1_asked v_p1_waiting v_p1_fee v_p1_takings d_p1_prices d_p1_free d_p1_sizes d_p1_limits d_p1_places d_p1_paid d_p1_queue) H := hP
  have hD : va_D A (WX0_copyFrom cI cJ cZ cB a_o a_o_prices a_o_free a_o_sizes a_o_limits a_o_places a_o_paid a_o_queue a_p1 a_p1_prices a_p1_free a_p1_sizes a_p1_limits a_p1_places a_p1_paid a_p1_queue v_p1_asked v_p1_waiting v_p1_fee v_p1_takings (va_cpy d_p1_prices d_o_prices ((0 : Int32)).toNatClampNeg ((0 : Int32)).toNatClampNeg ((4 : Int32)).toNatClampNeg) (va_cpy d_p1_free d_o_free ((0 : Int32)).toNatClampNeg ((0 : Int32)).toNatClampNeg ((4 : Int32)).toNatClampNeg) (va_cpy d_p1_sizes d_o_sizes ((0 : Int32)).toNatClampNeg ((0 : Int32)).toNatClampNeg ((31 : Int32)).toNatClampNeg) (va_cpy d_p1_limits d_o_limits ((0 : Int32)).toNatClampNeg ((0 : Int32)).toNatClampNeg ((31 : Int32)).toNatClampNeg) (va_cpy d_p1_places d_o_places ((0 : Int32)).toNatClampNeg ((0 : Int32)).toNatClampNeg ((31 : Int32)).toNatClampNeg) (va_cpy d_p1_paid d_o_paid ((0 : Int32)).toNatClampNeg ((0 : Int32)).toNatClampNeg ((31 : Int32)).toNatClampNeg) (va_cpy d_p1_queue d_o_queue ((0 : Int32)).toNatClampNeg ((0 : Int32)).toNatClampNeg ((5 : Int32)).toNatClampNeg) v_p1_asked v_p1_waiting v_p1_fee v_p1_takings d_p1_prices d_p1_free d_p1_sizes d_p1_limits d_p1_places d_p1_paid d_p1_queue) := hD
  cases hf
  exact W.vret hx hb hr (fun t ht hW => ⟨⟨rfl, by rw [ht]; exact hP, hD⟩, hS.F ht⟩) hS.2.2 dX0_copyFrom_139
abbrev WX0_asked (cI cJ cZ cB : ClassId) (a_o : Nat) (a_o_prices : Nat) (a_o_free : Nat) (a_o_sizes : Nat) (a_o_limits : Nat) (a_o_places : Nat) (a_o_paid : Nat) (a_o_queue : Nat) (v_o_asked : Int32) (v_o_waiting : Int32) (v_o_fee : Int32) (v_o_takings : Int32) : va_W := [(a_o, .inr (0, [.ref a_o_prices, .ref a_o_free, .ref a_o_sizes, .ref a_o_limits, .ref a_o_places, .ref a_o_paid, .ref a_o_queue, .int v_o_asked, .int v_o_waiting, .int v_o_fee, .int v_o_takings]))]
set_option maxRecDepth 20000 in
theorem iX0_asked_X0 : ∀ w ∈ wsX00, w ∈ wsX0_asked := by decide +kernel
def fX0_asked (v_o_asked : Int32) : Option (Int32) := some v_o_asked
set_option maxRecDepth 100000 in
set_option maxHeartbeats 4000000 in
theorem kX0_asked (l : Launch) (D : va_G) (cI cJ cZ cB : ClassId) (a_o : Nat) (a_o_prices : Nat) (a_o_free : Nat) (a_o_sizes : Nat) (a_o_limits : Nat) (a_o_places : Nat) (a_o_paid : Nat) (a_o_queue : Nat) (v_o_asked : Int32) (v_o_waiting : Int32) (v_o_fee : Int32) (v_o_takings : Int32) (res : Int32) (hf : fX0_asked v_o_asked = some res) : Ro l yX0_asked wsX0_asked ({ frames := 0, cells := 0, slots := 0, locals := 0 } : Room) D (tyL cI cJ cZ cB) [.ref a_o] (WX0_asked cI cJ cZ cB a_o a_o_prices a_o_free a_o_sizes a_o_limits a_o_places a_o_paid a_o_queue v_o_asked v_o_waiting v_o_fee v_o_takings) (some (.int res)) := by
  refine Ro.of (cc := cX0_asked) (maxL := 1) (ret := (some .int)) (own := RX0) (by decide) rfl rfl (Nat.le_of_ble_eq_true rfl) ?_
  intro p e s m below meth c ls C hK hP hl
  obtain ⟨hx, hb, hr, hml, hts, hown, hlk⟩ := id C
  have hl : lv_has ls 1 [(0, .ref a_o)] := hl
  unfold fX0_asked at hf
  refine lv_aload_n hx hb dX0_asked_0 rfl (lv_at hl 0 rfl) ?_
  refine va_get (D := D) (ci := 0) (v := .int v_o_asked) (C := RX0) (T := TX0) (N := 11) hx hb hts iX0_asked_X0 hown hK.1 hP 0 rfl rfl 7 (by decide) (hts (.fieldLink RX0 46 "LoneSeats$Bookings" "asked" "I") (by decide +kernel)) (fun _ h9 => h9) rfl dX0_asked_1 ?_
  cases hf
  exact W.iret hx hb hr (fun t ht hW => ⟨rfl, ht⟩) (fun _ h => absurd h List.not_mem_nil) dX0_asked_4
abbrev WX0_waiting (cI cJ cZ cB : ClassId) (a_o : Nat) (a_o_prices : Nat) (a_o_free : Nat) (a_o_sizes : Nat) (a_o_limits : Nat) (a_o_places : Nat) (a_o_paid : Nat) (a_o_queue : Nat) (v_o_asked : Int32) (v_o_waiting : Int32) (v_o_fee : Int32) (v_o_takings : Int32) : va_W := [(a_o, .inr (0, [.ref a_o_prices, .ref a_o_free, .ref a_o_sizes, .ref a_o_limits, .ref a_o_places, .ref a_o_paid, .ref a_o_queue, .int v_o_asked, .int v_o_waiting, .int v_o_fee, .int v_o_takings]))]
set_option maxRecDepth 20000 in
theorem iX0_waiting_X0 : ∀ w ∈ wsX00, w ∈ wsX0_waiting := by decide +kernel
def fX0_waiting (v_o_waiting : Int32) : Option (Int32) := some v_o_waiting
set_option maxRecDepth 100000 in
set_option maxHeartbeats 4000000 in
theorem kX0_waiting (l : Launch) (D : va_G) (cI cJ cZ cB : ClassId) (a_o : Nat) (a_o_prices : Nat) (a_o_free : Nat) (a_o_sizes : Nat) (a_o_limits : Nat) (a_o_places : Nat) (a_o_paid : Nat) (a_o_queue : Nat) (v_o_asked : Int32) (v_o_waiting : Int32) (v_o_fee : Int32) (v_o_takings : Int32) (res : Int32) (hf : fX0_waiting v_o_waiting = some res) : Ro l yX0_waiting wsX0_waiting ({ frames := 0, cells := 0, slots := 0, locals := 0 } : Room) D (tyL cI cJ cZ cB) [.ref a_o] (WX0_waiting cI cJ cZ cB a_o a_o_prices a_o_free a_o_sizes a_o_limits a_o_places a_o_paid a_o_queue v_o_asked v_o_waiting v_o_fee v_o_takings) (some (.int res)) := by
  refine Ro.of (cc := cX0_waiting) (maxL := 1) (ret := (some .int)) (own := RX0) (by decide) rfl rfl (Nat.le_of_ble_eq_true rfl) ?_
  intro p e s m below meth c ls C hK hP hl
  obtain ⟨hx, hb, hr, hml, hts, hown, hlk⟩ := id C
  have hl : lv_has ls 1 [(0, .ref a_o)] := hl
  unfold fX0_waiting at hf
  refine lv_aload_n hx hb dX0_waiting_0 rfl (lv_at hl 0 rfl) ?_
  refine va_get (D := D) (ci := 0) (v := .int v_o_waiting) (C := RX0) (T := TX0) (N := 11) hx hb hts iX0_waiting_X0 hown hK.1 hP 0 rfl rfl 8 (by decide) (hts (.fieldLink RX0 50 "LoneSeats$Bookings" "waiting" "I") (by decide +kernel)) (fun _ h9 => h9) rfl dX0_waiting_1 ?_
  cases hf
  exact W.iret hx hb hr (fun t ht hW => ⟨rfl, ht⟩) (fun _ h => absurd h List.not_mem_nil) dX0_waiting_4
abbrev WX0_currentFee (cI cJ cZ cB : ClassId) (a_o : Nat) (a_o_prices : Nat) (a_o_free : Nat) (a_o_sizes : Nat) (a_o_limits : Nat) (a_o_places : Nat) (a_o_paid : Nat) (a_o_queue : Nat) (v_o_asked : Int32) (v_o_waiting : Int32) (v_o_fee : Int32) (v_o_takings : Int32) : va_W := [(a_o, .inr (0, [.ref a_o_prices, .ref a_o_free, .ref a_o_sizes, .ref a_o_limits, .ref a_o_places, .ref a_o_paid, .ref a_o_queue, .int v_o_asked, .int v_o_waiting, .int v_o_fee, .int v_o_takings]))]
set_option maxRecDepth 20000 in
theorem iX0_currentFee_X0 : ∀ w ∈ wsX00, w ∈ wsX0_currentFee := by decide +kernel
def fX0_currentFee (v_o_fee : Int32) : Option (Int32) := some v_o_fee
set_option maxRecDepth 100000 in
set_option maxHeartbeats 4000000 in
theorem kX0_currentFee (l : Launch) (D : va_G) (cI cJ cZ cB : ClassId) (a_o : Nat) (a_o_prices : Nat) (a_o_free : Nat) (a_o_sizes : Nat) (a_o_limits : Nat) (a_o_places : Nat) (a_o_paid : Nat) (a_o_queue : Nat) (v_o_asked : Int32) (v_o_waiting : Int32) (v_o_fee : Int32) (v_o_takings : Int32) (res : Int32) (hf : fX0_currentFee v_o_fee = some res) : Ro l yX0_currentFee wsX0_currentFee ({ frames := 0, cells := 0, slots := 0, locals := 0 } : Room) D (tyL cI cJ cZ cB) [.ref a_o] (WX0_currentFee cI cJ cZ cB a_o a_o_prices a_o_free a_o_sizes a_o_limits a_o_places a_o_paid a_o_queue v_o_asked v_o_waiting v_o_fee v_o_takings) (some (.int res)) := by
  refine Ro.of (cc := cX0_currentFee) (maxL := 1) (ret := (some .int)) (own := RX0) (by decide) rfl rfl (Nat.le_of_ble_eq_true rfl) ?_
  intro p e s m below meth c ls C hK hP hl
  obtain ⟨hx, hb, hr, hml, hts, hown, hlk⟩ := id C
  have hl : lv_has ls 1 [(0, .ref a_o)] := hl
  unfold fX0_currentFee at hf
  refine lv_aload_n hx hb dX0_currentFee_0 rfl (lv_at hl 0 rfl) ?_
  refine va_get (D := D) (ci := 0) (v := .int v_o_fee) (C := RX0) (T := TX0) (N := 11) hx hb hts iX0_currentFee_X0 hown hK.1 hP 0 rfl rfl 9 (by decide) (hts (.fieldLink RX0 53 "LoneSeats$Bookings" "fee" "I") (by decide +kernel)) (fun _ h9 => h9) rfl dX0_currentFee_1 ?_
  cases hf
  exact W.iret hx hb hr (fun t ht hW => ⟨rfl, ht⟩) (fun _ h => absurd h List.not_mem_nil) dX0_currentFee_4
abbrev WX0_setFee (cI cJ cZ cB : ClassId) (a_o : Nat) (a_o_prices : Nat) (a_o_free : Nat) (a_o_sizes : Nat) (a_o_limits : Nat) (a_o_places : Nat) (a_o_paid : Nat) (a_o_queue : Nat) (v_o_asked : Int32) (v_o_waiting : Int32) (v_o_fee : Int32) (v_o_takings : Int32) : va_W := [(a_o, .inr (0, [.ref a_o_prices, .ref a_o_free, .ref a_o_sizes, .ref a_o_limits, .ref a_o_places, .ref a_o_paid, .ref a_o_queue, .int v_o_asked, .int v_o_waiting, .int v_o_fee, .int v_o_takings]))]
set_option maxRecDepth 20000 in
theorem iX0_setFee_X0 : ∀ w ∈ wsX00, w ∈ wsX0_setFee := by decide +kernel
def fX0_setFee (v_o_fee : Int32) (x1 : Int32) : Option (Int32) := some x1
set_option maxRecDepth 100000 in
set_option maxHeartbeats 4000000 in
theorem kX0_setFee (l : Launch) (D : va_G) (cI cJ cZ cB : ClassId) (a_o : Nat) (a_o_prices : Nat) (a_o_free : Nat) (a_o_sizes : Nat) (a_o_limits : Nat) (a_o_places : Nat) (a_o_paid : Nat) (a_o_queue : Nat) (v_o_asked : Int32) (v_o_waiting : Int32) (v_o_fee : Int32) (v_o_takings : Int32) (x1 : Int32) (res : Int32) (hf : fX0_setFee v_o_fee x1 = some res) : Rw l yX0_setFee wsX0_setFee ({ frames := 0, cells := 0, slots := 0, locals := 0 } : Room) D (tyL cI cJ cZ cB) [.ref a_o, .int x1] (WX0_setFee cI cJ cZ cB a_o a_o_prices a_o_free a_o_sizes a_o_limits a_o_places a_o_paid a_o_queue v_o_asked v_o_waiting v_o_fee v_o_takings) none (WX0_setFee cI cJ cZ cB a_o a_o_prices a_o_free a_o_sizes a_o_limits a_o_places a_o_paid a_o_queue v_o_asked v_o_waiting res v_o_takings) := by
  refine Rw.of (cc := cX0_setFee) (maxL := 2) (ret := none) (own := RX0) (by decide) rfl rfl (Nat.le_of_ble_eq_true rfl) ?_
  intro p e s m below meth c A ls C hK hA hP hD hS hl
  obtain ⟨hx, hb, hr, hml, hts, hown, hlk⟩ := id C
  have hl : lv_has ls 2 [(0, .ref a_o), (1, .int x1)] := hl
  unfold fX0_setFee at hf
  refine lv_aload_n hx hb dX0_setFee_0 rfl (lv_at hl 0 rfl) ?_
  refine lv_iload_n hx hb dX0_setFee_1 rfl (lv_at hl 1 rfl) ?_
  refine va_put (D := D) (ci := 0) (v := .int x1) (ty := .int) (C := RX0) (T := TX0) (N := 11) hx hb hts iX0_setFee_X0 tyX0 tyX0_ok nmX0 hown hK.1 hP hD hS 0 rfl rfl 9 (by decide) (hts (.fieldLink RX0 53 "LoneSeats$Bookings" "fee" "I") (by decide +kernel)) (fun _ h9 => h9) rfl (by decide +kernel) rfl rfl (Nat.le_of_ble_eq_true rfl) dX0_setFee_2 (fun H locs hP hD hS => ?_)
  have hP : va_P D vwCl (WX0_setFee cI cJ cZ cB a_o a_o_prices a_o_free a_o_sizes a_o_limits a_o_places a_o_paid a_o_queue v_o_asked v_o_waiting x1 v_o_takings) H := hP
  have hD : va_D A (WX0_setFee cI cJ cZ cB a_o a_o_prices a_o_free a_o_sizes a_o_limits a_o_places a_o_paid a_o_queue v_o_asked v_o_waiting x1 v_o_takings) := hD
  cases hf
  exact W.vret hx hb hr (fun t ht hW => ⟨⟨rfl, by rw [ht]; exact hP, hD⟩, hS.F ht⟩) hS.2.2 dX0_setFee_5
abbrev WX0_takings (cI cJ cZ cB : ClassId) (a_o : Nat) (a_o_prices : Nat) (a_o_free : Nat) (a_o_sizes : Nat) (a_o_limits : Nat) (a_o_places : Nat) (a_o_paid : Nat) (a_o_queue : Nat) (v_o_asked : Int32) (v_o_waiting : Int32) (v_o_fee : Int32) (v_o_takings : Int32) : va_W := [(a_o, .inr (0, [.ref a_o_prices, .ref a_o_free, .ref a_o_sizes, .ref a_o_limits, .ref a_o_places, .ref a_o_paid, .ref a_o_queue, .int v_o_asked, .int v_o_waiting, .int v_o_fee, .int v_o_takings]))]
set_option maxRecDepth 20000 in
theorem iX0_takings_X0 : ∀ w ∈ wsX00, w ∈ wsX0_takings := by decide +kernel
def fX0_takings (v_o_takings : Int32) : Option (Int32) := some v_o_takings
set_option maxRecDepth 100000 in
set_option maxHeartbeats 4000000 in
theorem kX0_takings (l : Launch) (D : va_G) (cI cJ cZ cB : ClassId) (a_o : Nat) (a_o_prices : Nat) (a_o_free : Nat) (a_o_sizes : Nat) (a_o_limits : Nat) (a_o_places : Nat) (a_o_paid : Nat) (a_o_queue : Nat) (v_o_asked : Int32) (v_o_waiting : Int32) (v_o_fee : Int32) (v_o_takings : Int32) (res : Int32) (hf : fX0_takings v_o_takings = some res) : Ro l yX0_takings wsX0_takings ({ frames := 0, cells := 0, slots := 0, locals := 0 } : Room) D (tyL cI cJ cZ cB) [.ref a_o] (WX0_takings cI cJ cZ cB a_o a_o_prices a_o_free a_o_sizes a_o_limits a_o_places a_o_paid a_o_queue v_o_asked v_o_waiting v_o_fee v_o_takings) (some (.int res)) := by
  refine Ro.of (cc := cX0_takings) (maxL := 1) (ret := (some .int)) (own := RX0) (by decide) rfl rfl (Nat.le_of_ble_eq_true rfl) ?_
  intro p e s m below meth c ls C hK hP hl
  obtain ⟨hx, hb, hr, hml, hts, hown, hlk⟩ := id C
  have hl : lv_has ls 1 [(0, .ref a_o)] := hl
  unfold fX0_takings at hf
  refine lv_aload_n hx hb dX0_takings_0 rfl (lv_at hl 0 rfl) ?_
  refine va_get (D := D) (ci := 0) (v := .int v_o_takings) (C := RX0) (T := TX0) (N := 11) hx hb hts iX0_takings_X0 hown hK.1 hP 0 rfl rfl 10 (by decide) (hts (.fieldLink RX0 56 "LoneSeats$Bookings" "takings" "I") (by decide +kernel)) (fun _ h9 => h9) rfl dX0_takings_1 ?_
  cases hf
  exact W.iret hx hb hr (fun t ht hW => ⟨rfl, ht⟩) (fun _ h => absurd h List.not_mem_nil) dX0_takings_4
def fX0_isRow (x0 : Int32) : Option (Int32) := (if x0 < 0 then some (0 : Int32) else (if (4 : Int32) ≤ x0 then some (0 : Int32) else some (1 : Int32)))
set_option maxRecDepth 100000 in
set_option maxHeartbeats 4000000 in
theorem kX0_isRow (l : Launch) (D : va_G) (cI cJ cZ cB : ClassId) (x0 : Int32) (res : Int32) (hf : fX0_isRow x0 = some res) : Ro l yX0_isRow wsX0_isRow ({ frames := 0, cells := 0, slots := 0, locals := 0 } : Room) D (tyL cI cJ cZ cB) [.int x0] ([] : va_W) (some (.int res)) := by
  refine Ro.of (cc := cX0_isRow) (maxL := 1) (ret := (some .boolean)) (own := RX0) (by decide) rfl rfl (Nat.le_of_ble_eq_true rfl) ?_
  intro p e s m below meth c ls C hK hP hl
  obtain ⟨hx, hb, hr, hml, hts, hown, hlk⟩ := id C
  have hl : lv_has ls 1 [(0, .int x0)] := hl
  unfold fX0_isRow at hf
  refine lv_iload_n hx hb dX0_isRow_0 rfl (lv_at hl 0 rfl) ?_
  refine lv_if_lt (tgt := 13) hx hb dX0_isRow_1 (by decide) (fun hc => ?_) (fun hc => ?_)
  · have hf := pf_t hc hf
    refine lv_iconst (v := (0 : Int32)) hx hb dX0_isRow_13 (by decide) ?_
    cases hf
    exact W.zret hx hb hr (nar_b (by decide)) (fun t ht hW => ⟨rfl, ht⟩) (fun _ h => absurd h List.not_mem_nil) dX0_isRow_14
  · have hf := pf_f hc hf
    refine lv_iload_n hx hb dX0_isRow_4 rfl (lv_at hl 0 rfl) ?_
    refine lv_iconst (v := (4 : Int32)) hx hb dX0_isRow_5 (by decide) ?_
    refine lv_icmp_ge (tgt := 13) hx hb dX0_isRow_6 (by decide) (fun hc => ?_) (fun hc => ?_)
    · have hf := pf_t hc hf
      refine lv_iconst (v := (0 : Int32)) hx hb dX0_isRow_13 (by decide) ?_
      cases hf
      exact W.zret hx hb hr (nar_b (by decide)) (fun t ht hW => ⟨rfl, ht⟩) (fun _ h => absurd h List.not_mem_nil) dX0_isRow_14
    · have hf := pf_f hc hf
      refine lv_iconst (v := (1 : Int32)) hx hb dX0_isRow_9 (by decide) ?_
      refine lv_goto (tgt := 14) hx hb dX0_isRow_10 (by decide) ?_
      cases hf
      exact W.zret hx hb hr (nar_b (by decide)) (fun t ht hW => ⟨rfl, ht⟩) (fun _ h => absurd h List.not_mem_nil) dX0_isRow_14
abbrev WX0_priceOf (cI cJ cZ cB : ClassId) (a_o : Nat) (a_o_prices : Nat) (a_o_free : Nat) (a_o_sizes : Nat) (a_o_limits : Nat) (a_o_places : Nat) (a_o_paid : Nat) (a_o_queue : Nat) (v_o_asked : Int32) (v_o_waiting : Int32) (v_o_fee : Int32) (v_o_takings : Int32) (d_o_prices : (Nat → Int32)) : va_W := [(a_o, .inr (0, [.ref a_o_prices, .ref a_o_free, .ref a_o_sizes, .ref a_o_limits, .ref a_o_places, .ref a_o_paid, .ref a_o_queue, .int v_o_asked, .int v_o_waiting, .int v_o_fee, .int v_o_takings])), (a_o_prices, .inl (cI, (4, .inl d_o_prices)))]
set_option maxRecDepth 20000 in
theorem iX0_priceOf_X0 : ∀ w ∈ wsX00, w ∈ wsX0_priceOf := by decide +kernel
def fX0_priceOf (d_o_prices : (Nat → Int32)) (x1 : Int32) : Option (Int32) := ((fX0_isRow x1).bind fun q1 => (if q1 = 0 then some (0 : Int32) else (if x1 < 0 ∨ 4 ≤ (x1).toNatClampNeg then none else some (d_o_prices (x1).toNatClampNeg))))
set_option maxRecDepth 100000 in
set_option maxHeartbeats 4000000 in
theorem kX0_priceOf (l : Launch) (D : va_G) (cI cJ cZ cB : ClassId) (a_o : Nat) (a_o_prices : Nat) (a_o_free : Nat) (a_o_sizes : Nat) (a_o_limits : Nat) (a_o_places : Nat) (a_o_paid : Nat) (a_o_queue : Nat) (v_o_asked : Int32) (v_o_waiting : Int32) (v_o_fee : Int32) (v_o_takings : Int32) (d_o_prices : (Nat → Int32)) (x1 : Int32) (res : Int32) (hf : fX0_priceOf d_o_prices x1 = some res) : Ro l yX0_priceOf wsX0_priceOf ({ frames := 1, cells := 0, slots := 0, locals := 20 } : Room) D (tyL cI cJ cZ cB) [.ref a_o, .int x1] (WX0_priceOf cI cJ cZ cB a_o a_o_prices a_o_free a_o_sizes a_o_limits a_o_places a_o_paid a_o_queue v_o_asked v_o_waiting v_o_fee v_o_takings d_o_prices) (some (.int res)) := by
  refine Ro.of (cc := cX0_priceOf) (maxL := 2) (ret := (some .int)) (own := RX0) (by decide) rfl rfl (Nat.le_of_ble_eq_true rfl) ?_
  intro p e s m below meth c ls C hK hP hl
  obtain ⟨hx, hb, hr, hml, hts, hown, hlk⟩ := id C
  have hl : lv_has ls 2 [(0, .ref a_o), (1, .int x1)] := hl
  unfold fX0_priceOf at hf
  refine lv_iload_n hx hb dX0_priceOf_0 rfl (lv_at hl 1 rfl) ?_
  obtain ⟨q1, hq2, hf⟩ := pf_b hf
  have hPc := hP.sub (ws' := ([] : va_W)) [] rfl
  refine cl_roi (va_runS (As := [.int x1]) (rest := []) ⟨hx, hb, hml, hown, hts⟩ (kX0_isRow l D cI cJ cZ cB x1 q1 hq2) (va_cwS 1 hts gX0_priceOf_X0_isRow rfl rfl rfl (by decide +kernel) ⟨Nat.le_of_ble_eq_true rfl, Nat.le_of_ble_eq_true rfl⟩) ⟨PRo.blind, PRo.at hK hPc⟩ rfl rfl hl.1 rfl (lv_room (Nat.le_of_ble_eq_true rfl)) dX0_priceOf_1 ⟨Nat.zero_le _, Nat.zero_le _⟩) ?_
  refine lv_if_eq (tgt := 16) hx hb dX0_priceOf_4 (by decide) (fun hc => ?_) (fun hc => ?_)
  · have hf := pf_t hc hf
    refine lv_iconst (v := (0 : Int32)) hx hb dX0_priceOf_16 (by decide) ?_
    cases hf
    exact W.iret hx hb hr (fun t ht hW => ⟨rfl, ht⟩) (fun _ h => absurd h List.not_mem_nil) dX0_priceOf_17
  · have hf := pf_f hc hf
    refine lv_aload_n hx hb dX0_priceOf_7 rfl (lv_at hl 0 rfl) ?_
    refine va_get (D := D) (ci := 0) (v := .ref a_o_prices) (C := RX0) (T := TX0) (N := 11) hx hb hts iX0_priceOf_X0 hown hK.1 hP 0 rfl rfl 0 (by decide) (hts (.fieldLink RX0 9 "LoneSeats$Bookings" "prices" "[I") (by decide +kernel)) (fun _ h9 => h9) rfl dX0_priceOf_8 ?_
    refine lv_iload_n hx hb dX0_priceOf_11 rfl (lv_at hl 1 rfl) ?_
    obtain ⟨hg3, hf⟩ := pf_x hf
    refine va_iald hx hb hK.1 hP 1 0 rfl rfl hg3 dX0_priceOf_12 ?_
    refine lv_goto (tgt := 17) hx hb dX0_priceOf_13 (by decide) ?_
    cases hf
    exact W.iret hx hb hr (fun t ht hW => ⟨rfl, ht⟩) (fun _ h => absurd h List.not_mem_nil) dX0_priceOf_17
abbrev WX0_setPrice (cI cJ cZ cB : ClassId) (a_o : Nat) (a_o_prices : Nat) (a_o_free : Nat) (a_o_sizes : Nat) (a_o_limits : Nat) (a_o_places : Nat) (a_o_paid : Nat) (a_o_queue : Nat) (v_o_asked : Int32) (v_o_waiting : Int32) (v_o_fee : Int32) (v_o_takings : Int32) (d_o_prices : (Nat → Int32)) : va_W := [(a_o, .inr (0, [.ref a_o_prices, .ref a_o_free, .ref a_o_sizes, .ref a_o_limits, .ref a_o_places, .ref a_o_paid, .ref a_o_queue, .int v_o_asked, .int v_o_waiting, .int v_o_fee, .int v_o_takings])), (a_o_prices, .inl (cI, (4, .inl d_o_prices)))]
set_option maxRecDepth 20000 in
theorem iX0_setPrice_X0 : ∀ w ∈ wsX00, w ∈ wsX0_setPrice := by decide +kernel
def fX0_setPrice (d_o_prices : (Nat → Int32)) (x1 : Int32) (x2 : Int32) : Option ((Nat → Int32)) := ((fX0_isRow x1).bind fun q1 => (if q1 = 0 then some d_o_prices else (if x1 < 0 ∨ 4 ≤ (x1).toNatClampNeg then none else some (upd d_o_prices ((x1).toNatClampNeg) x2))))
set_option maxRecDepth 100000 in
set_option maxHeartbeats 4000000 in
theorem kX0_setPrice (l : Launch) (D : va_G) (cI cJ cZ cB : ClassId) (a_o : Nat) (a_o_prices : Nat) (a_o_free : Nat) (a_o_sizes : Nat) (a_o_limits : Nat) (a_o_places : Nat) (a_o_paid : Nat) (a_o_queue : Nat) (v_o_asked : Int32) (v_o_waiting : Int32) (v_o_fee : Int32) (v_o_takings : Int32) (d_o_prices : (Nat → Int32)) (x1 : Int32) (x2 : Int32) (res : (Nat → Int32)) (hf : fX0_setPrice d_o_prices x1 x2 = some res) : Rw l yX0_setPrice wsX0_setPrice ({ frames := 1, cells := 0, slots := 0, locals := 20 } : Room) D (tyL cI cJ cZ cB) [.ref a_o, .int x1, .int x2] (WX0_setPrice cI cJ cZ cB a_o a_o_prices a_o_free a_o_sizes a_o_limits a_o_places a_o_paid a_o_queue v_o_asked v_o_waiting v_o_fee v_o_takings d_o_prices) none (WX0_setPrice cI cJ cZ cB a_o a_o_prices a_o_free a_o_sizes a_o_limits a_o_places a_o_paid a_o_queue v_o_asked v_o_waiting v_o_fee v_o_takings res) := by
  refine Rw.of (cc := cX0_setPrice) (maxL := 3) (ret := none) (own := RX0) (by decide) rfl rfl (Nat.le_of_ble_eq_true rfl) ?_
  intro p e s m below meth c A ls C hK hA hP hD hS hl
  obtain ⟨hx, hb, hr, hml, hts, hown, hlk⟩ := id C
  have hl : lv_has ls 3 [(0, .ref a_o), (1, .int x1), (2, .int x2)] := hl
  unfold fX0_setPrice at hf
  refine lv_iload_n hx hb dX0_setPrice_0 rfl (lv_at hl 1 rfl) ?_
  obtain ⟨q1, hq2, hf⟩ := pf_b hf
  have hPc := hP.sub (ws' := ([] : va_W)) [] rfl
  refine cl_roi (va_runS (As := [.int x1]) (rest := []) ⟨hx, hb, hml, hown, hts⟩ (kX0_isRow l D cI cJ cZ cB x1 q1 hq2) (va_cwS 1 hts gX0_setPrice_X0_isRow rfl rfl rfl (by decide +kernel) ⟨Nat.le_of_ble_eq_true rfl, Nat.le_of_ble_eq_true rfl⟩) ⟨PRo.blind, PRo.at hK hPc⟩ rfl rfl hl.1 rfl (lv_room (Nat.le_of_ble_eq_true rfl)) dX0_setPrice_1 ⟨Nat.zero_le _, Nat.zero_le _⟩) ?_
  refine lv_if_eq (tgt := 14) hx hb dX0_setPrice_4 (by decide) (fun hc => ?_) (fun hc => ?_)
  · have hf := pf_t hc hf
    cases hf
    exact W.vret hx hb hr (fun t ht hW => ⟨⟨rfl, by rw [ht]; exact hP, hD⟩, hS.F ht⟩) hS.2.2 dX0_setPrice_14
  · have hf := pf_f hc hf
    refine lv_aload_n hx hb dX0_setPrice_7 rfl (lv_at hl 0 rfl) ?_
    refine va_get (D := D) (ci := 0) (v := .ref a_o_prices) (C := RX0) (T := TX0) (N := 11) hx hb hts iX0_setPrice_X0 hown hK.1 hP 0 rfl rfl 0 (by decide) (hts (.fieldLink RX0 9 "LoneSeats$Bookings" "prices" "[I") (by decide +kernel)) (fun _ h9 => h9) rfl dX0_setPrice_8 ?_
    refine lv_iload_n hx hb dX0_setPrice_11 rfl (lv_at hl 1 rfl) ?_
    refine lv_iload_n hx hb dX0_setPrice_12 rfl (lv_at hl 2 rfl) ?_
    obtain ⟨hg3, hf⟩ := pf_x hf
    refine va_iast hx hb hK.1 hP hD hS 1 0 rfl rfl hg3 dX0_setPrice_13 (fun H locs hP hD hS => ?_)
    have hP : va_P D vwCl (WX0_setPrice cI cJ cZ cB a_o a_o_prices a_o_free a_o_sizes a_o_limits a_o_places a_o_paid a_o_queue v_o_asked v_o_waiting v_o_fee v_o_takings (upd d_o_prices ((x1).toNatClampNeg) x2)) H := hP
    have hD : va_D A (WX0_setPrice cI cJ cZ cB a_o a_o_prices a_o_free a_o_sizes a_o_limits a_o_places a_o_paid a_o_queue v_o_asked v_o_waiting v_o_fee v_o_takings (upd d_o_prices ((x1).toNatClampNeg) x2)) := hD
    cases hf
    exact W.vret hx hb hr (fun t ht hW => ⟨⟨rfl, by rw [ht]; exact hP, hD⟩, hS.F ht⟩) hS.2.2 dX0_setPrice_14
abbrev WX0_freeIn (cI cJ cZ cB : ClassId) (a_o : Nat) (a_o_prices : Nat) (a_o_free : Nat) (a_o_sizes : Nat) (a_o_limits : Nat) (a_o_places : Nat) (a_o_paid : Nat) (a_o_queue : Nat) (v_o_asked : Int32) (v_o_waiting : Int32) (v_o_fee : Int32) (v_o_takings : Int32) (d_o_free : (Nat → Int32)) : va_W := [(a_o, .inr (0, [.ref a_o_prices, .ref a_o_free, .ref a_o_sizes, .ref a_o_limits, .ref a_o_places, .ref a_o_paid, .ref a_o_queue, .int v_o_asked, .int v_o_waiting, .int v_o_fee, .int v_o_takings])), (a_o_free, .inl (cI, (4, .inl d_o_free)))]
set_option maxRecDepth 20000 in
theorem iX0_freeIn_X0 : ∀ w ∈ wsX00, w ∈ wsX0_freeIn := by decide +kernel
def fX0_freeIn (d_o_free : (Nat → Int32)) (x1 : Int32) : Option (Int32) := ((fX0_isRow x1).bind fun q1 => (if q1 = 0 then some (0 : Int32) else (if x1 < 0 ∨ 4 ≤ (x1).toNatClampNeg then none else some (d_o_free (x1).toNatClampNeg))))
set_option maxRecDepth 100000 in
set_option maxHeartbeats 4000000 in
theorem kX0_freeIn (l : Launch) (D : va_G) (cI cJ cZ cB : ClassId) (a_o : Nat) (a_o_prices : Nat) (a_o_free : Nat) (a_o_sizes : Nat) (a_o_limits : Nat) (a_o_places : Nat) (a_o_paid : Nat) (a_o_queue : Nat) (v_o_asked : Int32) (v_o_waiting : Int32) (v_o_fee : Int32) (v_o_takings : Int32) (d_o_free : (Nat → Int32)) (x1 : Int32) (res : Int32) (hf : fX0_freeIn d_o_free x1 = some res) : Ro l yX0_freeIn wsX0_freeIn ({ frames := 1, cells := 0, slots := 0, locals := 20 } : Room) D (tyL cI cJ cZ cB) [.ref a_o, .int x1] (WX0_freeIn cI cJ cZ cB a_o a_o_prices a_o_free a_o_sizes a_o_limits a_o_places a_o_paid a_o_queue v_o_asked v_o_waiting v_o_fee v_o_takings d_o_free) (some (.int res)) := by
  refine Ro.of (cc := cX0_freeIn) (maxL := 2) (ret := (some .int)) (own := RX0) (by decide) rfl rfl (Nat.le_of_ble_eq_true rfl) ?_
  intro p e s m below meth c ls C hK hP hl
  obtain ⟨hx, hb, hr, hml, hts, hown, hlk⟩ := id C
  have hl : lv_has ls 2 [(0, .ref a_o), (1, .int x1)] := hl
  unfold fX0_freeIn at hf
  refine lv_iload_n hx hb dX0_freeIn_0 rfl (lv_at hl 1 rfl) ?_
  obtain ⟨q1, hq2, hf⟩ := pf_b hf
  have hPc := hP.sub (ws' := ([] : va_W)) [] rfl
  refine cl_roi (va_runS (As := [.int x1]) (rest := []) ⟨hx, hb, hml, hown, hts⟩ (kX0_isRow l D cI cJ cZ cB x1 q1 hq2) (va_cwS 1 hts gX0_freeIn_X0_isRow rfl rfl rfl (by decide +kernel) ⟨Nat.le_of_ble_eq_true rfl, Nat.le_of_ble_eq_true rfl⟩) ⟨PRo.blind, PRo.at hK hPc⟩ rfl rfl hl.1 rfl (lv_room (Nat.le_of_ble_eq_true rfl)) dX0_freeIn_1 ⟨Nat.zero_le _, Nat.zero_le _⟩) ?_
  refine lv_if_eq (tgt := 16) hx hb dX0_freeIn_4 (by decide) (fun hc => ?_) (fun hc => ?_)
  · have hf := pf_t hc hf
    refine lv_iconst (v := (0 : Int32)) hx hb dX0_freeIn_16 (by decide) ?_
    cases hf
    exact W.iret hx hb hr (fun t ht hW => ⟨rfl, ht⟩) (fun _ h => absurd h List.not_mem_nil) dX0_freeIn_17
  · have hf := pf_f hc hf
    refine lv_aload_n hx hb dX0_freeIn_7 rfl (lv_at hl 0 rfl) ?_
    refine va_get (D := D) (ci := 0) (v := .ref a_o_free) (C := RX0) (T := TX0) (N := 11) hx hb hts iX0_freeIn_X0 hown hK.1 hP 0 rfl rfl 1 (by decide) (hts (.fieldLink RX0 15 "LoneSeats$Bookings" "free" "[I") (by decide +kernel)) (fun _ h9 => h9) rfl dX0_freeIn_8 ?_
    refine lv_iload_n hx hb dX0_freeIn_11 rfl (lv_at hl 1 rfl) ?_
    obtain ⟨hg3, hf⟩ := pf_x hf
    refine va_iald hx hb hK.1 hP 1 0 rfl rfl hg3 dX0_freeIn_12 ?_
    refine lv_goto (tgt := 17) hx hb dX0_freeIn_13 (by decide) ?_
    cases hf
    exact W.iret hx hb hr (fun t ht hW => ⟨rfl, ht⟩) (fun _ h => absurd h List.not_mem_nil) dX0_freeIn_17
def fJ6_bitCount_0f7a4 (x0 : Int32) : Option (Int32) := some ((((((((x0 - (((x0).toUInt32 >>> (((1 : Int32)).toUInt32 &&& Int32.toUInt32 31)).toInt32 &&& (1431655765 : Int32))) &&& (858993459 : Int32)) + ((((x0 - (((x0).toUInt32 >>> (((1 : Int32)).toUInt32 &&& Int32.toUInt32 31)).toInt32 &&& (1431655765 : Int32)))).toUInt32 >>> (((2 : Int32)).toUInt32 &&& Int32.toUInt32 31)).toInt32 &&& (858993459 : Int32))) + (((((x0 - (((x0).toUInt32 >>> (((1 : Int32)).toUInt32 &&& Int32.toUInt32 31)).toInt32 &&& (1431655765 : Int32))) &&& (858993459 : Int32)) + ((((x0 - (((x0).toUInt32 >>> (((1 : Int32)).toUInt32 &&& Int32.toUInt32 31)).toInt32 &&& (1431655765 : Int32)))).toUInt32 >>> (((2 : Int32)).toUInt32 &&& Int32.toUInt32 31)).toInt32 &&& (858993459 : Int32)))).toUInt32 >>> (((4 : Int32)).toUInt32 &&& Int32.toUInt32 31)).toInt32) &&& (252645135 : Int32)) + (((((((x0 - (((x0).toUInt32 >>> (((1 : Int32)).toUInt32 &&& Int32.toUInt32 31)).toInt32 &&& (1431655765 : Int32))) &&& (858993459 : Int32)) + ((((x0 - (((x0).toUInt32 >>> (((1 : Int32)).toUInt32 &&& Int32.toUInt32 31)).toInt32 &&& (1431655765 : Int32)))).toUInt32 >>> (((2 : Int32)).toUInt32 &&& Int32.toUInt32 31)).toInt32 &&& (858993459 : Int32))) + (((((x0 - (((x0).toUInt32 >>> (((1 : Int32)).toUInt32 &&& Int32.toUInt32 31)).toInt32 &&& (1431655765 : Int32))) &&& (858993459 : Int32)) + ((((x0 - (((x0).toUInt32 >>> (((1 : Int32)).toUInt32 &&& Int32.toUInt32 31)).toInt32 &&& (1431655765 : Int32)))).toUInt32 >>> (((2 : Int32)).toUInt32 &&& Int32.toUInt32 31)).toInt32 &&& (858993459 : Int32)))).toUInt32 >>> (((4 : Int32)).toUInt32 &&& Int32.toUInt32 31)).toInt32) &&& (252645135 : Int32))).toUInt32 >>> (((8 : Int32)).toUInt32 &&& Int32.toUInt32 31)).toInt32) + ((((((((x0 - (((x0).toUInt32 >>> (((1 : Int32)).toUInt32 &&& Int32.toUInt32 31)).toInt32 &&& (1431655765 : Int32))) &&& (858993459 : Int32)) + ((((x0 - (((x0).toUInt32 >>> (((1 : Int32)).toUInt32 &&& Int32.toUInt32 31)).toInt32 &&& (1431655765 : Int32)))).toUInt32 >>> (((2 : Int32)).toUInt32 &&& Int32.toUInt32 31)).toInt32 &&& (858993459 : Int32))) + (((((x0 - (((x0).toUInt32 >>> (((1 : Int32)).toUInt32 &&& Int32.toUInt32 31)).toInt32 &&& (1431655765 : Int32))) &&& (858993459 : Int32)) + ((((x0 - (((x0).toUInt32 >>> (((1 : Int32)).toUInt32 &&& Int32.toUInt32 31)).toInt32 &&& (1431655765 : Int32)))).toUInt32 >>> (((2 : Int32)).toUInt32 &&& Int32.toUInt32 31)).toInt32 &&& (858993459 : Int32)))).toUInt32 >>> (((4 : Int32)).toUInt32 &&& Int32.toUInt32 31)).toInt32) &&& (252645135 : Int32)) + (((((((x0 - (((x0).toUInt32 >>> (((1 : Int32)).toUInt32 &&& Int32.toUInt32 31)).toInt32 &&& (1431655765 : Int32))) &&& (858993459 : Int32)) + ((((x0 - (((x0).toUInt32 >>> (((1 : Int32)).toUInt32 &&& Int32.toUInt32 31)).toInt32 &&& (1431655765 : Int32)))).toUInt32 >>> (((2 : Int32)).toUInt32 &&& Int32.toUInt32 31)).toInt32 &&& (858993459 : Int32))) + (((((x0 - (((x0).toUInt32 >>> (((1 : Int32)).toUInt32 &&& Int32.toUInt32 31)).toInt32 &&& (1431655765 : Int32))) &&& (858993459 : Int32)) + ((((x0 - (((x0).toUInt32 >>> (((1 : Int32)).toUInt32 &&& Int32.toUInt32 31)).toInt32 &&& (1431655765 : Int32)))).toUInt32 >>> (((2 : Int32)).toUInt32 &&& Int32.toUInt32 31)).toInt32 &&& (858993459 : Int32)))).toUInt32 >>> (((4 : Int32)).toUInt32 &&& Int32.toUInt32 31)).toInt32) &&& (252645135 : Int32))).toUInt32 >>> (((8 : Int32)).toUInt32 &&& Int32.toUInt32 31)).toInt32)).toUInt32 >>> (((16 : Int32)).toUInt32 &&& Int32.toUInt32 31)).toInt32) &&& (63 : Int32))
set_option maxRecDepth 100000 in
set_option maxHeartbeats 4000000 in
theorem kJ6_bitCount_0f7a4 (l : Launch) (D : va_G) (cI cJ cZ cB : ClassId) (x0 : Int32) (res : Int32) (hf : fJ6_bitCount_0f7a4 x0 = some res) : Ro l yJ6_bitCount_0f7a4 wsJ6_bitCount_0f7a4 ({ frames := 0, cells := 0, slots := 0, locals := 0 } : Room) D (tyL cI cJ cZ cB) [.int x0] ([] : va_W) (some (.int res)) := by
  refine Ro.of (cc := cJ6_bitCount_0f7a4) (maxL := 1) (ret := (some .int)) (own := RJ6) (by decide) rfl rfl (Nat.le_of_ble_eq_true rfl) ?_
  intro p e s m below meth c ls C hK hP hl
  obtain ⟨hx, hb, hr, hml, hts, hown, hlk⟩ := id C
  have hl : lv_has ls 1 [(0, .int x0)] := hl
  unfold fJ6_bitCount_0f7a4 at hf
  refine lv_iload_n hx hb dJ6_bitCount_0f7a4_0 rfl (lv_at hl 0 rfl) ?_
  refine lv_iload_n hx hb dJ6_bitCount_0f7a4_1 rfl (lv_at hl 0 rfl) ?_
  refine lv_iconst (v := (1 : Int32)) hx hb dJ6_bitCount_0f7a4_2 (by decide) ?_
  refine lv_iushr hx hb dJ6_bitCount_0f7a4_3 rfl ?_
  refine lv_ldcw (v := (1431655765 : Int32)) hx hb hown (hts (.constant RJ6 265 (1431655765 : Int32)) (by decide +kernel)) dJ6_bitCount_0f7a4_4 ?_
  refine lv_iand hx hb dJ6_bitCount_0f7a4_7 ?_
  refine lv_isub hx hb dJ6_bitCount_0f7a4_8 ?_
  refine lv_istore_n (lv' := [(0, .int (x0 - (((x0).toUInt32 >>> (((1 : Int32)).toUInt32 &&& Int32.toUInt32 31)).toInt32 &&& (1431655765 : Int32))))]) hx hb dJ6_bitCount_0f7a4_9 rfl hl (by decide) rfl (fun ls hl => ?_)
  refine lv_iload_n hx hb dJ6_bitCount_0f7a4_10 rfl (lv_at hl 0 rfl) ?_
  refine lv_ldcw (v := (858993459 : Int32)) hx hb hown (hts (.constant RJ6 266 (858993459 : Int32)) (by decide +kernel)) dJ6_bitCount_0f7a4_11 ?_
  refine lv_iand hx hb dJ6_bitCount_0f7a4_14 ?_
  refine lv_iload_n hx hb dJ6_bitCount_0f7a4_15 rfl (lv_at hl 0 rfl) ?_
  refine lv_iconst (v := (2 : Int32)) hx hb dJ6_bitCount_0f7a4_16 (by decide) ?_
  refine lv_iushr hx hb dJ6_bitCount_0f7a4_17 rfl ?_
  refine lv_ldcw (v := (858993459 : Int32)) hx hb hown (hts (.constant RJ6 266 (858993459 : Int32)) (by decide +kernel)) dJ6_bitCount_0f7a4_18 ?_
  refine lv_iand hx hb dJ6_bitCount_0f7a4_21 ?_
  refine lv_iadd hx hb dJ6_bitCount_0f7a4_22 ?_
  refine lv_istore_n (lv' := [(0, .int (((x0 - (((x0).toUInt32 >>> (((1 : Int32)).toUInt32 &&& Int32.toUInt32 31)).toInt32 &&& (1431655765 : Int32))) &&& (858993459 : Int32)) + ((((x0 - (((x0).toUInt32 >>> (((1 : Int32)).toUInt32 &&& Int32.toUInt32 31)).toInt32 &&& (1431655765 : Int32)))).toUInt32 >>> (((2 : Int32)).toUInt32 &&& Int32.toUInt32 31)).toInt32 &&& (858993459 : Int32))))]) hx hb dJ6_bitCount_0f7a4_23 rfl hl (by decide) rfl (fun ls hl => ?_)
  refine lv_iload_n hx hb dJ6_bitCount_0f7a4_24 rfl (lv_at hl 0 rfl) ?_
  refine lv_iload_n hx hb dJ6_bitCount_0f7a4_25 rfl (lv_at hl 0 rfl) ?_
  refine lv_iconst (v := (4 : Int32)) hx hb dJ6_bitCount_0f7a4_26 (by decide) ?_
  refine lv_iushr hx hb dJ6_bitCount_0f7a4_27 rfl ?_
  refine lv_iadd hx hb dJ6_bitCount_0f7a4_28 ?_
  refine lv_ldcw (v := (252645135 : Int32)) hx hb hown (hts (.constant RJ6 267 (252645135 : Int32)) (by decide +kernel)) dJ6_bitCount_0f7a4_29 ?_
  refine lv_iand hx hb dJ6_bitCount_0f7a4_32 ?_
  refine lv_istore_n (lv' := [(0, .int (((((x0 - (((x0).toUInt32 >>> (((1 : Int32)).toUInt32 &&& Int32.toUInt32 31)).toInt32 &&& (1431655765 : Int32))) &&& (858993459 : Int32)) + ((((x0 - (((x0).toUInt32 >>> (((1 : Int32)).toUInt32 &&& Int32.toUInt32 31)).toInt32 &&& (1431655765 : Int32)))).toUInt32 >>> (((2 : Int32)).toUInt32 &&& Int32.toUInt32 31)).toInt32 &&& (858993459 : Int32))) + (((((x0 - (((x0).toUInt32 >>> (((1 : Int32)).toUInt32 &&& Int32.toUInt32 31)).toInt32 &&& (1431655765 : Int32))) &&& (858993459 : Int32)) + ((((x0 - (((x0).toUInt32 >>> (((1 : Int32)).toUInt32 &&& Int32.toUInt32 31)).toInt32 &&& (1431655765 : Int32)))).toUInt32 >>> (((2 : Int32)).toUInt32 &&& Int32.toUInt32 31)).toInt32 &&& (858993459 : Int32)))).toUInt32 >>> (((4 : Int32)).toUInt32 &&& Int32.toUInt32 31)).toInt32) &&& (252645135 : Int32)))]) hx hb dJ6_bitCount_0f7a4_33 rfl hl (by decide) rfl (fun ls hl => ?_)
  refine lv_iload_n hx hb dJ6_bitCount_0f7a4_34 rfl (lv_at hl 0 rfl) ?_
  refine lv_iload_n hx hb dJ6_bitCount_0f7a4_35 rfl (lv_at hl 0 rfl) ?_
  refine lv_bipush (v := (8 : Int32)) hx hb dJ6_bitCount_0f7a4_36 (by decide) ?_
  refine lv_iushr hx hb dJ6_bitCount_0f7a4_38 rfl ?_
  refine lv_iadd hx hb dJ6_bitCount_0f7a4_39 ?_
  refine lv_istore_n (lv' := [(0, .int ((((((x0 - (((x0).toUInt32 >>> (((1 : Int32)).toUInt32 &&& Int32.toUInt32 31)).toInt32 &&& (1431655765 : Int32))) &&& (858993459 : Int32)) + ((((x0 - (((x0).toUInt32 >>> (((1 : Int32)).toUInt32 &&& Int32.toUInt32 31)).toInt32 &&& (1431655765 : Int32)))).toUInt32 >>> (((2 : Int32)).toUInt32 &&& Int32.toUInt32 31)).toInt32 &&& (858993459 : Int32))) + (((((x0 - (((x0).toUInt32 >>> (((1 : Int32)).toUInt32 &&& Int32.toUInt32 31)).toInt32 &&& (1431655765 : Int32))) &&& (858993459 : Int32)) + ((((x0 - (((x0).toUInt32 >>> (((1 : Int32)).toUInt32 &&& Int32.toUInt32 31)).toInt32 &&& (1431655765 : Int32)))).toUInt32 >>> (((2 : Int32)).toUInt32 &&& Int32.toUInt32 31)).toInt32 &&& (858993459 : Int32)))).toUInt32 >>> (((4 : Int32)).toUInt32 &&& Int32.toUInt32 31)).toInt32) &&& (252645135 : Int32)) + (((((((x0 - (((x0).toUInt32 >>> (((1 : Int32)).toUInt32 &&& Int32.toUInt32 31)).toInt32 &&& (1431655765 : Int32))) &&& (858993459 : Int32)) + ((((x0 - (((x0).toUInt32 >>> (((1 : Int32)).toUInt32 &&& Int32.toUInt32 31)).toInt32 &&& (1431655765 : Int32)))).toUInt32 >>> (((2 : Int32)).toUInt32 &&& Int32.toUInt32 31)).toInt32 &&& (858993459 : Int32))) + (((((x0 - (((x0).toUInt32 >>> (((1 : Int32)).toUInt32 &&& Int32.toUInt32 31)).toInt32 &&& (1431655765 : Int32))) &&& (858993459 : Int32)) + ((((x0 - (((x0).toUInt32 >>> (((1 : Int32)).toUInt32 &&& Int32.toUInt32 31)).toInt32 &&& (1431655765 : Int32)))).toUInt32 >>> (((2 : Int32)).toUInt32 &&& Int32.toUInt32 31)).toInt32 &&& (858993459 : Int32)))).toUInt32 >>> (((4 : Int32)).toUInt32 &&& Int32.toUInt32 31)).toInt32) &&& (252645135 : Int32))).toUInt32 >>> (((8 : Int32)).toUInt32 &&& Int32.toUInt32 31)).toInt32))]) hx hb dJ6_bitCount_0f7a4_40 rfl hl (by decide) rfl (fun ls hl => ?_)
  refine lv_iload_n hx hb dJ6_bitCount_0f7a4_41 rfl (lv_at hl 0 rfl) ?_
  refine lv_iload_n hx hb dJ6_bitCount_0f7a4_42 rfl (lv_at hl 0 rfl) ?_
  refine lv_bipush (v := (16 : Int32)) hx hb dJ6_bitCount_0f7a4_43 (by decide) ?_
  refine lv_iushr hx hb dJ6_bitCount_0f7a4_45 rfl ?_
  refine lv_iadd hx hb dJ6_bitCount_0f7a4_46 ?_
  refine lv_istore_n (lv' := [(0, .int (((((((x0 - (((x0).toUInt32 >>> (((1 : Int32)).toUInt32 &&& Int32.toUInt32 31)).toInt32 &&& (1431655765 : Int32))) &&& (858993459 : Int32)) + ((((x0 - (((x0).toUInt32 >>> (((1 : Int32)).toUInt32 &&& Int32.toUInt32 31)).toInt32 &&& (1431655765 : Int32)))).toUInt32 >>> (((2 : Int32)).toUInt32 &&& Int32.toUInt32 31)).toInt32 &&& (858993459 : Int32))) + (((((x0 - (((x0).toUInt32 >>> (((1 : Int32)).toUInt32 &&& Int32.toUInt32 31)).toInt32 &&& (1431655765 : Int32))) &&& (858993459 : Int32)) + ((((x0 - (((x0).toUInt32 >>> (((1 : Int32)).toUInt32 &&& Int32.toUInt32 31)).toInt32 &&& (1431655765 : Int32)))).toUInt32 >>> (((2 : Int32)).toUInt32 &&& Int32.toUInt32 31)).toInt32 &&& (858993459 : Int32)))).toUInt32 >>> (((4 : Int32)).toUInt32 &&& Int32.toUInt32 31)).toInt32) &&& (252645135 : Int32)) + (((((((x0 - (((x0).toUInt32 >>> (((1 : Int32)).toUInt32 &&& Int32.toUInt32 31)).toInt32 &&& (1431655765 : Int32))) &&& (858993459 : Int32)) + ((((x0 - (((x0).toUInt32 >>> (((1 : Int32)).toUInt32 &&& Int32.toUInt32 31)).toInt32 &&& (1431655765 : Int32)))).toUInt32 >>> (((2 : Int32)).toUInt32 &&& Int32.toUInt32 31)).toInt32 &&& (858993459 : Int32))) + (((((x0 - (((x0).toUInt32 >>> (((1 : Int32)).toUInt32 &&& Int32.toUInt32 31)).toInt32 &&& (1431655765 : Int32))) &&& (858993459 : Int32)) + ((((x0 - (((x0).toUInt32 >>> (((1 : Int32)).toUInt32 &&& Int32.toUInt32 31)).toInt32 &&& (1431655765 : Int32)))).toUInt32 >>> (((2 : Int32)).toUInt32 &&& Int32.toUInt32 31)).toInt32 &&& (858993459 : Int32)))).toUInt32 >>> (((4 : Int32)).toUInt32 &&& Int32.toUInt32 31)).toInt32) &&& (252645135 : Int32))).toUInt32 >>> (((8 : Int32)).toUInt32 &&& Int32.toUInt32 31)).toInt32) + ((((((((x0 - (((x0).toUInt32 >>> (((1 : Int32)).toUInt32 &&& Int32.toUInt32 31)).toInt32 &&& (1431655765 : Int32))) &&& (858993459 : Int32)) + ((((x0 - (((x0).toUInt32 >>> (((1 : Int32)).toUInt32 &&& Int32.toUInt32 31)).toInt32 &&& (1431655765 : Int32)))).toUInt32 >>> (((2 : Int32)).toUInt32 &&& Int32.toUInt32 31)).toInt32 &&& (858993459 : Int32))) + (((((x0 - (((x0).toUInt32 >>> (((1 : Int32)).toUInt32 &&& Int32.toUInt32 31)).toInt32 &&& (1431655765 : Int32))) &&& (858993459 : Int32)) + ((((x0 - (((x0).toUInt32 >>> (((1 : Int32)).toUInt32 &&& Int32.toUInt32 31)).toInt32 &&& (1431655765 : Int32)))).toUInt32 >>> (((2 : Int32)).toUInt32 &&& Int32.toUInt32 31)).toInt32 &&& (858993459 : Int32)))).toUInt32 >>> (((4 : Int32)).toUInt32 &&& Int32.toUInt32 31)).toInt32) &&& (252645135 : Int32)) + (((((((x0 - (((x0).toUInt32 >>> (((1 : Int32)).toUInt32 &&& Int32.toUInt32 31)).toInt32 &&& (1431655765 : Int32))) &&& (858993459 : Int32)) + ((((x0 - (((x0).toUInt32 >>> (((1 : Int32)).toUInt32 &&& Int32.toUInt32 31)).toInt32 &&& (1431655765 : Int32)))).toUInt32 >>> (((2 : Int32)).toUInt32 &&& Int32.toUInt32 31)).toInt32 &&& (858993459 : Int32))) + (((((x0 - (((x0).toUInt32 >>> (((1 : Int32)).toUInt32 &&& Int32.toUInt32 31)).toInt32 &&& (1431655765 : Int32))) &&& (858993459 : Int32)) + ((((x0 - (((x0).toUInt32 >>> (((1 : Int32)).toUInt32 &&& Int32.toUInt32 31)).toInt32 &&& (1431655765 : Int32)))).toUInt32 >>> (((2 : Int32)).toUInt32 &&& Int32.toUInt32 31)).toInt32 &&& (858993459 : Int32)))).toUInt32 >>> (((4 : Int32)).toUInt32 &&& Int32.toUInt32 31)).toInt32) &&& (252645135 : Int32))).toUInt32 >>> (((8 : Int32)).toUInt32 &&& Int32.toUInt32 31)).toInt32)).toUInt32 >>> (((16 : Int32)).toUInt32 &&& Int32.toUInt32 31)).toInt32))]) hx hb dJ6_bitCount_0f7a4_47 rfl hl (by decide) rfl (fun ls hl => ?_)
  refine lv_iload_n hx hb dJ6_bitCount_0f7a4_48 rfl (lv_at hl 0 rfl) ?_
  refine lv_bipush (v := (63 : Int32)) hx hb dJ6_bitCount_0f7a4_49 (by decide) ?_
  refine lv_iand hx hb dJ6_bitCount_0f7a4_51 ?_
  cases hf
  exact W.iret hx hb hr (fun t ht hW => ⟨rfl, ht⟩) (fun _ h => absurd h List.not_mem_nil) dJ6_bitCount_0f7a4_52
abbrev WX0_freeSeats (cI cJ cZ cB : ClassId) (a_o : Nat) (a_o_prices : Nat) (a_o_free : Nat) (a_o_sizes : Nat) (a_o_limits : Nat) (a_o_places : Nat) (a_o_paid : Nat) (a_o_queue : Nat) (v_o_asked : Int32) (v_o_waiting : Int32) (v_o_fee : Int32) (v_o_takings : Int32) (d_o_free : (Nat → Int32)) : va_W := [(a_o, .inr (0, [.ref a_o_prices, .ref a_o_free, .ref a_o_sizes, .ref a_o_limits, .ref a_o_places, .ref a_o_paid, .ref a_o_queue, .int v_o_asked, .int v_o_waiting, .int v_o_fee, .int v_o_takings])), (a_o_free, .inl (cI, (4, .inl d_o_free)))]
set_option maxRecDepth 20000 in
theorem iX0_freeSeats_X0 : ∀ w ∈ wsX00, w ∈ wsX0_freeSeats := by decide +kernel
def fX0_freeSeats_4 : Nat → (Nat → Int32) → Int32 → Int32 → Option (Int32)
  | 0, _, _, _ => none
  | n + 1, d_o_free, x1, x2 => (if (4 : Int32) ≤ x2 then some x1 else (if x2 < 0 ∨ 4 ≤ (x2).toNatClampNeg then none else ((fJ6_bitCount_0f7a4 (d_o_free (x2).toNatClampNeg)).bind fun q2 => fX0_freeSeats_4 n d_o_free (x1 + q2) (x2 + (1 : Int32)))))
set_option maxRecDepth 100000 in
set_option maxHeartbeats 4000000 in
theorem tX0_freeSeats_4 {p : Program} {l : Launch} {e : Env} {s : State} {m : MethodId} {args : Array Value} {below : List Frame} {meth : Method} {c : Code} {D : va_G} {cI cJ cZ cB : ClassId} {a_o : Nat} {a_o_prices : Nat} {a_o_free : Nat} {a_o_sizes : Nat} {a_o_limits : Nat} {a_o_places : Nat} {a_o_paid : Nat} {a_o_queue : Nat} (C : Cx p s m args meth c cX0_freeSeats 3 (some .int) wsX0_freeSeats RX0) (hK : Kw D (tyL cI cJ cZ cB) s) : ∀ (n : Nat), ∀ (v_o_asked : Int32) (v_o_waiting : Int32) (v_o_fee : Int32) (v_o_takings : Int32) (d_o_free : (Nat → Int32)) (x1 : Int32) (x2 : Int32) (ls : Array Slot) (res : Int32), va_P D vwCl (WX0_freeSeats cI cJ cZ cB a_o a_o_prices a_o_free a_o_sizes a_o_limits a_o_places a_o_paid a_o_queue v_o_asked v_o_waiting v_o_fee v_o_takings d_o_free) s.heap → lv_has ls 3 [(0, .ref a_o), (1, .int x1), (2, .int x2)] → fX0_freeSeats_4 n d_o_free x1 x2 = some res → W p l e ({ frames := 1, cells := 0, slots := 0, locals := 20 } : Room) s m args below meth c s.heap [] 0 0 (MQ below (QRo (some (.int res))) args s 0 0 (fun _ => False)) (F0 m 4 ls []) := by
  obtain ⟨hx, hb, hr, hml, hts, hown, hlk⟩ := id C
  intro n
  induction n with
  | zero =>
    intro v_o_asked v_o_waiting v_o_fee v_o_takings d_o_free x1 x2 ls res hP hl hf
    rw [fX0_freeSeats_4] at hf
    cases hf
  | succ n ih =>
    intro v_o_asked v_o_waiting v_o_fee v_o_takings d_o_free x1 x2 ls res hP hl hf
    rw [fX0_freeSeats_4] at hf
    refine lv_iload_n hx hb dX0_freeSeats_4 rfl (lv_at hl 2 rfl) ?_
    refine lv_iconst (v := (4 : Int32)) hx hb dX0_freeSeats_5 (by decide) ?_
    refine lv_icmp_ge (tgt := 27) hx hb dX0_freeSeats_6 (by decide) (fun hc => ?_) (fun hc => ?_)
    · have hf := pf_t hc hf
      refine lv_iload_n hx hb dX0_freeSeats_27 rfl (lv_at hl 1 rfl) ?_
      cases hf
      exact W.iret hx hb hr (fun t ht hW => ⟨rfl, ht⟩) (fun _ h => absurd h List.not_mem_nil) dX0_freeSeats_28
    · have hf := pf_f hc hf
      refine lv_iload_n hx hb dX0_freeSeats_9 rfl (lv_at hl 1 rfl) ?_
      refine lv_aload_n hx hb dX0_freeSeats_10 rfl (lv_at hl 0 rfl) ?_
      refine va_get (D := D) (ci := 0) (v := .ref a_o_free) (C := RX0) (T := TX0) (N := 11) hx hb hts iX0_freeSeats_X0 hown hK.1 hP 0 rfl rfl 1 (by decide) (hts (.fieldLink RX0 15 "LoneSeats$Bookings" "free" "[I") (by decide +kernel)) (fun _ h9 => h9) rfl dX0_freeSeats_11 ?_
      refine lv_iload_n hx hb dX0_freeSeats_14 rfl (lv_at hl 2 rfl) ?_
      obtain ⟨hg1, hf⟩ := pf_x hf
      refine va_iald hx hb hK.1 hP 1 0 rfl rfl hg1 dX0_freeSeats_15 ?_
      obtain ⟨q2, hq3, hf⟩ := pf_b hf
      have hPc := hP.sub (ws' := ([] : va_W)) [] rfl
      refine cl_roi (va_runS (As := [.int (d_o_free (x2).toNatClampNeg)]) (rest := [.int x1]) ⟨hx, hb, hml, hown, hts⟩ (kJ6_bitCount_0f7a4 l D cI cJ cZ cB (d_o_free (x2).toNatClampNeg) q2 hq3) (va_cwS 1 hts gX0_freeSeats_J6_bitCount_0f7a4 rfl rfl rfl (by decide +kernel) ⟨Nat.le_of_ble_eq_true rfl, Nat.le_of_ble_eq_true rfl⟩) ⟨PRo.blind, PRo.at hK hPc⟩ rfl rfl hl.1 rfl (lv_room (Nat.le_of_ble_eq_true rfl)) dX0_freeSeats_16 ⟨Nat.zero_le _, Nat.zero_le _⟩) ?_
      refine lv_iadd hx hb dX0_freeSeats_19 ?_
      refine lv_istore_n (lv' := [(1, .int (x1 + q2)), (0, .ref a_o), (2, .int x2)]) hx hb dX0_freeSeats_20 rfl hl (by decide) rfl (fun ls hl => ?_)
      refine lv_iinc (v := (x2 + (1 : Int32))) (lv' := [(2, .int (x2 + (1 : Int32))), (1, .int (x1 + q2)), (0, .ref a_o)]) hx hb dX0_freeSeats_21 hl (k := 2) rfl rfl (by decide) rfl (fun ls hl => ?_)
      refine lv_goto (tgt := 4) hx hb dX0_freeSeats_24 (by decide) ?_
      exact ih v_o_asked v_o_waiting v_o_fee v_o_takings d_o_free (x1 + q2) (x2 + (1 : Int32)) ls _ hP (lv_sub hl [2, 1, 0] rfl) hf
def fX0_freeSeats (d_o_free : (Nat → Int32)) : Option (Int32) := fX0_freeSeats_4 FU d_o_free (0 : Int32) (0 : Int32)
set_option maxRecDepth 100000 in
set_option maxHeartbeats 4000000 in
theorem kX0_freeSeats (l : Launch) (D : va_G) (cI cJ cZ cB : ClassId) (a_o : Nat) (a_o_prices : Nat) (a_o_free : Nat) (a_o_sizes : Nat) (a_o_limits : Nat) (a_o_places : Nat) (a_o_paid : Nat) (a_o_queue : Nat) (v_o_asked : Int32) (v_o_waiting : Int32) (v_o_fee : Int32) (v_o_takings : Int32) (d_o_free : (Nat → Int32)) (res : Int32) (hf : fX0_freeSeats d_o_free = some res) : Ro l yX0_freeSeats wsX0_freeSeats ({ frames := 1, cells := 0, slots := 0, locals := 20 } : Room) D (tyL cI cJ cZ cB) [.ref a_o] (WX0_freeSeats cI cJ cZ cB a_o a_o_prices a_o_free a_o_sizes a_o_limits a_o_places a_o_paid a_o_queue v_o_asked v_o_waiting v_o_fee v_o_takings d_o_free) (some (.int res)) := by
  refine Ro.of (cc := cX0_freeSeats) (maxL := 3) (ret := (some .int)) (own := RX0) (by decide) rfl rfl (Nat.le_of_ble_eq_true rfl) ?_
  intro p e s m below meth c ls C hK hP hl
  obtain ⟨hx, hb, hr, hml, hts, hown, hlk⟩ := id C
  have hl : lv_has ls 3 [(0, .ref a_o)] := hl
  unfold fX0_freeSeats at hf
  refine lv_iconst (v := (0 : Int32)) hx hb dX0_freeSeats_0 (by decide) ?_
  refine lv_istore_n (lv' := [(1, .int (0 : Int32)), (0, .ref a_o)]) hx hb dX0_freeSeats_1 rfl hl (by decide) rfl (fun ls hl => ?_)
  refine lv_iconst (v := (0 : Int32)) hx hb dX0_freeSeats_2 (by decide) ?_
  refine lv_istore_n (lv' := [(2, .int (0 : Int32)), (1, .int (0 : Int32)), (0, .ref a_o)]) hx hb dX0_freeSeats_3 rfl hl (by decide) rfl (fun ls hl => ?_)
  exact tX0_freeSeats_4 C hK  FU v_o_asked v_o_waiting v_o_fee v_o_takings d_o_free (0 : Int32) (0 : Int32) ls _ hP (lv_sub hl [2, 1, 0] rfl) hf
def fX8_rowOf (x0 : Int32) : Option (Int32) := some (x0 / (10 : Int32))
set_option maxRecDepth 100000 in
set_option maxHeartbeats 4000000 in
theorem kX8_rowOf (l : Launch) (D : va_G) (cI cJ cZ cB : ClassId) (x0 : Int32) (res : Int32) (hf : fX8_rowOf x0 = some res) : Ro l yX8_rowOf wsX8_rowOf ({ frames := 0, cells := 0, slots := 0, locals := 0 } : Room) D (tyL cI cJ cZ cB) [.int x0] ([] : va_W) (some (.int res)) := by
  refine Ro.of (cc := cX8_rowOf) (maxL := 1) (ret := (some .int)) (own := RX8) (by decide) rfl rfl (Nat.le_of_ble_eq_true rfl) ?_
  intro p e s m below meth c ls C hK hP hl
  obtain ⟨hx, hb, hr, hml, hts, hown, hlk⟩ := id C
  have hl : lv_has ls 1 [(0, .int x0)] := hl
  unfold fX8_rowOf at hf
  refine lv_iload_n hx hb dX8_rowOf_0 rfl (lv_at hl 0 rfl) ?_
  refine lv_bipush (v := (10 : Int32)) hx hb dX8_rowOf_1 (by decide) ?_
  refine lv_idiv hx hb dX8_rowOf_3 (by decide) ?_
  cases hf
  exact W.iret hx hb hr (fun t ht hW => ⟨rfl, ht⟩) (fun _ h => absurd h List.not_mem_nil) dX8_rowOf_4
def fX8_firstOf (x0 : Int32) : Option (Int32) := some (x0 - x0 / (10 : Int32) * (10 : Int32))
set_option maxRecDepth 100000 in
set_option maxHeartbeats 4000000 in
theorem kX8_firstOf (l : Launch) (D : va_G) (cI cJ cZ cB : ClassId) (x0 : Int32) (res : Int32) (hf : fX8_firstOf x0 = some res) : Ro l yX8_firstOf wsX8_firstOf ({ frames := 0, cells := 0, slots := 0, locals := 0 } : Room) D (tyL cI cJ cZ cB) [.int x0] ([] : va_W) (some (.int res)) := by
  refine Ro.of (cc := cX8_firstOf) (maxL := 1) (ret := (some .int)) (own := RX8) (by decide) rfl rfl (Nat.le_of_ble_eq_true rfl) ?_
  intro p e s m below meth c ls C hK hP hl
  obtain ⟨hx, hb, hr, hml, hts, hown, hlk⟩ := id C
  have hl : lv_has ls 1 [(0, .int x0)] := hl
  unfold fX8_firstOf at hf
  refine lv_iload_n hx hb dX8_firstOf_0 rfl (lv_at hl 0 rfl) ?_
  refine lv_bipush (v := (10 : Int32)) hx hb dX8_firstOf_1 (by decide) ?_
  refine lv_irem hx hb dX8_firstOf_3 (by decide) ?_
  cases hf
  exact W.iret hx hb hr (fun t ht hW => ⟨rfl, ht⟩) (fun _ h => absurd h List.not_mem_nil) dX8_firstOf_4
abbrev WX0_take (cI cJ cZ cB : ClassId) (a_o : Nat) (a_o_prices : Nat) (a_o_free : Nat) (a_o_sizes : Nat) (a_o_limits : Nat) (a_o_places : Nat) (a_o_paid : Nat) (a_o_queue : Nat) (v_o_asked : Int32) (v_o_waiting : Int32) (v_o_fee : Int32) (v_o_takings : Int32) (d_o_free : (Nat → Int32)) : va_W := [(a_o, .inr (0, [.ref a_o_prices, .ref a_o_free, .ref a_o_sizes, .ref a_o_limits, .ref a_o_places, .ref a_o_paid, .ref a_o_queue, .int v_o_asked, .int v_o_waiting, .int v_o_fee, .int v_o_takings])), (a_o_free, .inl (cI, (4, .inl d_o_free)))]
set_option maxRecDepth 20000 in
theorem iX0_take_X0 : ∀ w ∈ wsX00, w ∈ wsX0_take := by decide +kernel
def fX0_take (d_o_free : (Nat → Int32)) (x1 : Int32) (x2 : Int32) : Option ((Nat → Int32)) := ((fX8_rowOf x1).bind fun q1 => ((fX0_isRow q1).bind fun q3 => (if q3 = 0 then some d_o_free else (if q1 < 0 ∨ 4 ≤ (q1).toNatClampNeg then none else ((fX8_firstOf x1).bind fun q6 => ((fX8_span q6 x2).bind fun q8 => (if q1 < 0 ∨ 4 ≤ (q1).toNatClampNeg then none else some (upd d_o_free ((q1).toNatClampNeg) ((d_o_free (q1).toNatClampNeg) &&& (q8 ^^^ (-1 : Int32)))))))))))
set_option maxRecDepth 100000 in
set_option maxHeartbeats 4000000 in
theorem kX0_take (l : Launch) (D : va_G) (cI cJ cZ cB : ClassId) (a_o : Nat) (a_o_prices : Nat) (a_o_free : Nat) (a_o_sizes : Nat) (a_o_limits : Nat) (a_o_places : Nat) (a_o_paid : Nat) (a_o_queue : Nat) (v_o_asked : Int32) (v_o_waiting : Int32) (v_o_fee : Int32) (v_o_takings : Int32) (d_o_free : (Nat → Int32)) (x1 : Int32) (x2 : Int32) (res : (Nat → Int32)) (hf : fX0_take d_o_free x1 x2 = some res) : Rw l yX0_take wsX0_take ({ frames := 1, cells := 0, slots := 0, locals := 21 } : Room) D (tyL cI cJ cZ cB) [.ref a_o, .int x1, .int x2] (WX0_take cI cJ cZ cB a_o a_o_prices a_o_free a_o_sizes a_o_limits a_o_places a_o_paid a_o_queue v_o_asked v_o_waiting v_o_fee v_o_takings d_o_free) none (WX0_take cI cJ cZ cB a_o a_o_prices a_o_free a_o_sizes a_o_limits a_o_places a_o_paid a_o_queue v_o_asked v_o_waiting v_o_fee v_o_takings res) := by
  refine Rw.of (cc := cX0_take) (maxL := 4) (ret := none) (own := RX0) (by decide) rfl rfl (Nat.le_of_ble_eq_true rfl) ?_
  intro p e s m below meth c A ls C hK hA hP hD hS hl
  obtain ⟨hx, hb, hr, hml, hts, hown, hlk⟩ := id C
  have hl : lv_has ls 4 [(0, .ref a_o), (1, .int x1), (2, .int x2)] := hl
  unfold fX0_take at hf
  refine lv_iload_n hx hb dX0_take_0 rfl (lv_at hl 1 rfl) ?_
  obtain ⟨q1, hq2, hf⟩ := pf_b hf
  have hPc := hP.sub (ws' := ([] : va_W)) [] rfl
  refine cl_roi (va_runSN (As := [.int x1]) (rest := []) ⟨hx, hb, hml, hown, hts⟩ (kX8_rowOf l D cI cJ cZ cB x1 q1 hq2) ⟨va_cnB 1 hts gX0_take_X8_rowOf_n74 rfl rfl rfl (hK.2.at 15 rfl) (hts (.initialized RX8) (by decide +kernel)) (by decide +kernel) ⟨Nat.le_of_ble_eq_true rfl, Nat.le_of_ble_eq_true rfl⟩, hts (.static yX8_rowOf) (by decide +kernel), trivial⟩ ⟨PRo.blind, PRo.at hK hPc⟩ rfl rfl hl.1 rfl (lv_room (Nat.le_of_ble_eq_true rfl)) dX0_take_1 ⟨Nat.zero_le _, Nat.zero_le _⟩) ?_
  refine lv_istore_n (lv' := [(3, .int q1), (0, .ref a_o), (1, .int x1), (2, .int x2)]) hx hb dX0_take_4 rfl hl (by decide) rfl (fun ls hl => ?_)
  refine lv_iload_n hx hb dX0_take_5 rfl (lv_at hl 0 rfl) ?_
  obtain ⟨q3, hq4, hf⟩ := pf_b hf
  have hPc := hP.sub (ws' := ([] : va_W)) [] rfl
  refine cl_roi (va_runS (As := [.int q1]) (rest := []) ⟨hx, hb, hml, hown, hts⟩ (kX0_isRow l D cI cJ cZ cB q1 q3 hq4) (va_cwS 1 hts gX0_take_X0_isRow rfl rfl rfl (by decide +kernel) ⟨Nat.le_of_ble_eq_true rfl, Nat.le_of_ble_eq_true rfl⟩) ⟨PRo.blind, PRo.at hK hPc⟩ rfl rfl hl.1 rfl (lv_room (Nat.le_of_ble_eq_true rfl)) dX0_take_6 ⟨Nat.zero_le _, Nat.zero_le _⟩) ?_
  refine lv_if_eq (tgt := 31) hx hb dX0_take_9 (by decide) (fun hc => ?_) (fun hc => ?_)
  · have hf := pf_t hc hf
    cases hf
    exact W.vret hx hb hr (fun t ht hW => ⟨⟨rfl, by rw [ht]; exact hP, hD⟩, hS.F ht⟩) hS.2.2 dX0_take_31
  · have hf := pf_f hc hf
    refine lv_aload_n hx hb dX0_take_12 rfl (lv_at hl 1 rfl) ?_
    refine va_get (D := D) (ci := 0) (v := .ref a_o_free) (C := RX0) (T := TX0) (N := 11) hx hb hts iX0_take_X0 hown hK.1 hP 0 rfl rfl 1 (by decide) (hts (.fieldLink RX0 15 "LoneSeats$Bookings" "free" "[I") (by decide +kernel)) (fun _ h9 => h9) rfl dX0_take_13 ?_
    refine lv_iload_n hx hb dX0_take_16 rfl (lv_at hl 0 rfl) ?_
    refine lv_dup2_11 hx hb dX0_take_17 rfl rfl ?_
    obtain ⟨hg5, hf⟩ := pf_x hf
    refine va_iald hx hb hK.1 hP 1 0 rfl rfl hg5 dX0_take_18 ?_
    refine lv_iload_n hx hb dX0_take_19 rfl (lv_at hl 2 rfl) ?_
    obtain ⟨q6, hq7, hf⟩ := pf_b hf
    have hPc := hP.sub (ws' := ([] : va_W)) [] rfl
    refine cl_roi (va_runSN (As := [.int x1]) (rest := [.int (d_o_free (q1).toNatClampNeg), .int q1, .ref a_o_free]) ⟨hx, hb, hml, hown, hts⟩ (kX8_firstOf l D cI cJ cZ cB x1 q6 hq7) ⟨va_cnB 1 hts gX0_take_X8_firstOf_n77 rfl rfl rfl (hK.2.at 16 rfl) (hts (.initialized RX8) (by decide +kernel)) (by decide +kernel) ⟨Nat.le_of_ble_eq_true rfl, Nat.le_of_ble_eq_true rfl⟩, hts (.static yX8_firstOf) (by decide +kernel), trivial⟩ ⟨PRo.blind, PRo.at hK hPc⟩ rfl rfl hl.1 rfl (lv_room (Nat.le_of_ble_eq_true rfl)) dX0_take_20 ⟨Nat.zero_le _, Nat.zero_le _⟩) ?_
    refine lv_iload_n hx hb dX0_take_23 rfl (lv_at hl 3 rfl) ?_
    obtain ⟨q8, hq9, hf⟩ := pf_b hf
    have hPc := hP.sub (ws' := ([] : va_W)) [] rfl
    refine cl_roi (va_runSN (As := [.int q6, .int x2]) (rest := [.int (d_o_free (q1).toNatClampNeg), .int q1, .ref a_o_free]) ⟨hx, hb, hml, hown, hts⟩ (kX8_span l D cI cJ cZ cB q6 x2 q8 hq9) ⟨va_cnB 2 hts gX0_take_X8_span_n42 rfl rfl rfl (hK.2.at 8 rfl) (hts (.initialized RX8) (by decide +kernel)) (by decide +kernel) ⟨Nat.le_of_ble_eq_true rfl, Nat.le_of_ble_eq_true rfl⟩, hts (.static yX8_span) (by decide +kernel), trivial⟩ ⟨PRo.blind, PRo.at hK hPc⟩ rfl rfl hl.1 rfl (lv_room (Nat.le_of_ble_eq_true rfl)) dX0_take_24 ⟨Nat.zero_le _, Nat.zero_le _⟩) ?_
    refine lv_iconst (v := (-1 : Int32)) hx hb dX0_take_27 (by decide) ?_
    refine lv_ixor hx hb dX0_take_28 ?_
    refine lv_iand hx hb dX0_take_29 ?_
    obtain ⟨hg10, hf⟩ := pf_x hf
    refine va_iast hx hb hK.1 hP hD hS 1 0 rfl rfl hg10 dX0_take_30 (fun H locs hP hD hS => ?_)
    have hP : va_P D vwCl (WX0_take cI cJ cZ cB a_o a_o_prices a_o_free a_o_sizes a_o_limits a_o_places a_o_paid a_o_queue v_o_asked v_o_waiting v_o_fee v_o_takings (upd d_o_free ((q1).toNatClampNeg) ((d_o_free (q1).toNatClampNeg) &&& (q8 ^^^ (-1 : Int32))))) H := hP
    have hD : va_D A (WX0_take cI cJ cZ cB a_o a_o_prices a_o_free a_o_sizes a_o_limits a_o_places a_o_paid a_o_queue v_o_asked v_o_waiting v_o_fee v_o_takings (upd d_o_free ((q1).toNatClampNeg) ((d_o_free (q1).toNatClampNeg) &&& (q8 ^^^ (-1 : Int32))))) := hD
    cases hf
    exact W.vret hx hb hr (fun t ht hW => ⟨⟨rfl, by rw [ht]; exact hP, hD⟩, hS.F ht⟩) hS.2.2 dX0_take_31
abbrev WX0_clear (cI cJ cZ cB : ClassId) (a_o : Nat) (a_o_prices : Nat) (a_o_free : Nat) (a_o_sizes : Nat) (a_o_limits : Nat) (a_o_places : Nat) (a_o_paid : Nat) (a_o_queue : Nat) (v_o_asked : Int32) (v_o_waiting : Int32) (v_o_fee : Int32) (v_o_takings : Int32) (d_o_free : (Nat → Int32)) : va_W := [(a_o, .inr (0, [.ref a_o_prices, .ref a_o_free, .ref a_o_sizes, .ref a_o_limits, .ref a_o_places, .ref a_o_paid, .ref a_o_queue, .int v_o_asked, .int v_o_waiting, .int v_o_fee, .int v_o_takings])), (a_o_free, .inl (cI, (4, .inl d_o_free)))]
set_option maxRecDepth 20000 in
theorem iX0_clear_X0 : ∀ w ∈ wsX00, w ∈ wsX0_clear := by decide +kernel
def fX0_clear (d_o_free : (Nat → Int32)) (x1 : Int32) (x2 : Int32) : Option ((Nat → Int32)) := ((fX8_rowOf x1).bind fun q1 => ((fX0_isRow q1).bind fun q3 => (if q3 = 0 then some d_o_free else (if q1 < 0 ∨ 4 ≤ (q1).toNatClampNeg then none else ((fX8_firstOf x1).bind fun q6 => ((fX8_span q6 x2).bind fun q8 => (if q1 < 0 ∨ 4 ≤ (q1).toNatClampNeg then none else some (upd d_o_free ((q1).toNatClampNeg) ((d_o_free (q1).toNatClampNeg) ||| q8)))))))))
set_option maxRecDepth 100000 in
set_option maxHeartbeats 4000000 in
theorem kX0_clear (l : Launch) (D : va_G) (cI cJ cZ cB : ClassId) (a_o : Nat) (a_o_prices : Nat) (a_o_free : Nat) (a_o_sizes : Nat) (a_o_limits : Nat) (a_o_places : Nat) (a_o_paid : Nat) (a_o_queue : Nat) (v_o_asked : Int32) (v_o_waiting : Int32) (v_o_fee : Int32) (v_o_takings : Int32) (d_o_free : (Nat → Int32)) (x1 : Int32) (x2 : Int32) (res : (Nat → Int32)) (hf : fX0_clear d_o_free x1 x2 = some res) : Rw l yX0_clear wsX0_clear ({ frames := 1, cells := 0, slots := 0, locals := 21 } : Room) D (tyL cI cJ cZ cB) [.ref a_o, .int x1, .int x2] (WX0_clear cI cJ cZ cB a_o a_o_prices a_o_free a_o_sizes a_o_limits a_o_places a_o_paid a_o_queue v_o_asked v_o_waiting v_o_fee v_o_takings d_o_free) none (WX0_clear cI cJ cZ cB a_o a_o_prices a_o_free a_o_sizes a_o_limits a_o_places a_o_paid a_o_queue v_o_asked v_o_waiting v_o_fee v_o_takings res) := by
  refine Rw.of (cc := cX0_clear) (maxL := 4) (ret := none) (own := RX0) (by decide) rfl rfl (Nat.le_of_ble_eq_true rfl) ?_
  intro p e s m below meth c A ls C hK hA hP hD hS hl
  obtain ⟨hx, hb, hr, hml, hts, hown, hlk⟩ := id C
  have hl : lv_has ls 4 [(0, .ref a_o), (1, .int x1), (2, .int x2)] := hl
  unfold fX0_clear at hf
  refine lv_iload_n hx hb dX0_clear_0 rfl (lv_at hl 1 rfl) ?_
  obtain ⟨q1, hq2, hf⟩ := pf_b hf
  have hPc := hP.sub (ws' := ([] : va_W)) [] rfl
  refine cl_roi (va_runSN (As := [.int x1]) (rest := []) ⟨hx, hb, hml, hown, hts⟩ (kX8_rowOf l D cI cJ cZ cB x1 q1 hq2) ⟨va_cnB 1 hts gX0_clear_X8_rowOf_n74 rfl rfl rfl (hK.2.at 15 rfl) (hts (.initialized RX8) (by decide +kernel)) (by decide +kernel) ⟨Nat.le_of_ble_eq_true rfl, Nat.le_of_ble_eq_true rfl⟩, hts (.static yX8_rowOf) (by decide +kernel), trivial⟩ ⟨PRo.blind, PRo.at hK hPc⟩ rfl rfl hl.1 rfl (lv_room (Nat.le_of_ble_eq_true rfl)) dX0_clear_1 ⟨Nat.zero_le _, Nat.zero_le _⟩) ?_
  refine lv_istore_n (lv' := [(3, .int q1), (0, .ref a_o), (1, .int x1), (2, .int x2)]) hx hb dX0_clear_4 rfl hl (by decide) rfl (fun ls hl => ?_)
  refine lv_iload_n hx hb dX0_clear_5 rfl (lv_at hl 0 rfl) ?_
  obtain ⟨q3, hq4, hf⟩ := pf_b hf
  have hPc := hP.sub (ws' := ([] : va_W)) [] rfl
  refine cl_roi (va_runS (As := [.int q1]) (rest := []) ⟨hx, hb, hml, hown, hts⟩ (kX0_isRow l D cI cJ cZ cB q1 q3 hq4) (va_cwS 1 hts gX0_clear_X0_isRow rfl rfl rfl (by decide +kernel) ⟨Nat.le_of_ble_eq_true rfl, Nat.le_of_ble_eq_true rfl⟩) ⟨PRo.blind, PRo.at hK hPc⟩ rfl rfl hl.1 rfl (lv_room (Nat.le_of_ble_eq_true rfl)) dX0_clear_6 ⟨Nat.zero_le _, Nat.zero_le _⟩) ?_
  refine lv_if_eq (tgt := 29) hx hb dX0_clear_9 (by decide) (fun hc => ?_) (fun hc => ?_)
  · have hf := pf_t hc hf
    cases hf
    exact W.vret hx hb hr (fun t ht hW => ⟨⟨rfl, by rw [ht]; exact hP, hD⟩, hS.F ht⟩) hS.2.2 dX0_clear_29
  · have hf := pf_f hc hf
    refine lv_aload_n hx hb dX0_clear_12 rfl (lv_at hl 1 rfl) ?_
    refine va_get (D := D) (ci := 0) (v := .ref a_o_free) (C := RX0) (T := TX0) (N := 11) hx hb hts iX0_clear_X0 hown hK.1 hP 0 rfl rfl 1 (by decide) (hts (.fieldLink RX0 15 "LoneSeats$Bookings" "free" "[I") (by decide +kernel)) (fun _ h9 => h9) rfl dX0_clear_13 ?_
    refine lv_iload_n hx hb dX0_clear_16 rfl (lv_at hl 0 rfl) ?_
    refine lv_dup2_11 hx hb dX0_clear_17 rfl rfl ?_
    obtain ⟨hg5, hf⟩ := pf_x hf
    refine va_iald hx hb hK.1 hP 1 0 rfl rfl hg5 dX0_clear_18 ?_
    refine lv_iload_n hx hb dX0_clear_19 rfl (lv_at hl 2 rfl) ?_
    obtain ⟨q6, hq7, hf⟩ := pf_b hf
    have hPc := hP.sub (ws' := ([] : va_W)) [] rfl
    refine cl_roi (va_runSN (As := [.int x1]) (rest := [.int (d_o_free (q1).toNatClampNeg), .int q1, .ref a_o_free]) ⟨hx, hb, hml, hown, hts⟩ (kX8_firstOf l D cI cJ cZ cB x1 q6 hq7) ⟨va_cnB 1 hts gX0_clear_X8_firstOf_n77 rfl rfl rfl (hK.2.at 16 rfl) (hts (.initialized RX8) (by decide +kernel)) (by decide +kernel) ⟨Nat.le_of_ble_eq_true rfl, Nat.le_of_ble_eq_true rfl⟩, hts (.static yX8_firstOf) (by decide +kernel), trivial⟩ ⟨PRo.blind, PRo.at hK hPc⟩ rfl rfl hl.1 rfl (lv_room (Nat.le_of_ble_eq_true rfl)) dX0_clear_20 ⟨Nat.zero_le _, Nat.zero_le _⟩) ?_
    refine lv_iload_n hx hb dX0_clear_23 rfl (lv_at hl 3 rfl) ?_
    obtain ⟨q8, hq9, hf⟩ := pf_b hf
    have hPc := hP.sub (ws' := ([] : va_W)) [] rfl
    refine cl_roi (va_runSN (As := [.int q6, .int x2]) (rest := [.int (d_o_free (q1).toNatClampNeg), .int q1, .ref a_o_free]) ⟨hx, hb, hml, hown, hts⟩ (kX8_span l D cI cJ cZ cB q6 x2 q8 hq9) ⟨va_cnB 2 hts gX0_clear_X8_span_n42 rfl rfl rfl (hK.2.at 8 rfl) (hts (.initialized RX8) (by decide +kernel)) (by decide +kernel) ⟨Nat.le_of_ble_eq_true rfl, Nat.le_of_ble_eq_true rfl⟩, hts (.static yX8_span) (by decide +kernel), trivial⟩ ⟨PRo.blind, PRo.at hK hPc⟩ rfl rfl hl.1 rfl (lv_room (Nat.le_of_ble_eq_true rfl)) dX0_clear_24 ⟨Nat.zero_le _, Nat.zero_le _⟩) ?_
    refine lv_ior hx hb dX0_clear_27 ?_
    obtain ⟨hg10, hf⟩ := pf_x hf
    refine va_iast hx hb hK.1 hP hD hS 1 0 rfl rfl hg10 dX0_clear_28 (fun H locs hP hD hS => ?_)
    have hP : va_P D vwCl (WX0_clear cI cJ cZ cB a_o a_o_prices a_o_free a_o_sizes a_o_limits a_o_places a_o_paid a_o_queue v_o_asked v_o_waiting v_o_fee v_o_takings (upd d_o_free ((q1).toNatClampNeg) ((d_o_free (q1).toNatClampNeg) ||| q8))) H := hP
    have hD : va_D A (WX0_clear cI cJ cZ cB a_o a_o_prices a_o_free a_o_sizes a_o_limits a_o_places a_o_paid a_o_queue v_o_asked v_o_waiting v_o_fee v_o_takings (upd d_o_free ((q1).toNatClampNeg) ((d_o_free (q1).toNatClampNeg) ||| q8))) := hD
    cases hf
    exact W.vret hx hb hr (fun t ht hW => ⟨⟨rfl, by rw [ht]; exact hP, hD⟩, hS.F ht⟩) hS.2.2 dX0_clear_29
abbrev WX0_knows (cI cJ cZ cB : ClassId) (a_o : Nat) (a_o_prices : Nat) (a_o_free : Nat) (a_o_sizes : Nat) (a_o_limits : Nat) (a_o_places : Nat) (a_o_paid : Nat) (a_o_queue : Nat) (v_o_asked : Int32) (v_o_waiting : Int32) (v_o_fee : Int32) (v_o_takings : Int32) : va_W := [(a_o, .inr (0, [.ref a_o_prices, .ref a_o_free, .ref a_o_sizes, .ref a_o_limits, .ref a_o_places, .ref a_o_paid, .ref a_o_queue, .int v_o_asked, .int v_o_waiting, .int v_o_fee, .int v_o_takings]))]
set_option maxRecDepth 20000 in
theorem iX0_knows_X0 : ∀ w ∈ wsX00, w ∈ wsX0_knows := by decide +kernel
def fX0_knows (v_o_asked : Int32) (x1 : Int32) : Option (Int32) := (if x1 < (1 : Int32) then some (0 : Int32) else (if v_o_asked < x1 then some (0 : Int32) else some (1 : Int32)))
set_option maxRecDepth 100000 in
set_option maxHeartbeats 4000000 in
theorem kX0_knows (l : Launch) (D : va_G) (cI cJ cZ cB : ClassId) (a_o : Nat) (a_o_prices : Nat) (a_o_free : Nat) (a_o_sizes : Nat) (a_o_limits : Nat) (a_o_places : Nat) (a_o_paid : Nat) (a_o_queue : Nat) (v_o_asked : Int32) (v_o_waiting : Int32) (v_o_fee : Int32) (v_o_takings : Int32) (x1 : Int32) (res : Int32) (hf : fX0_knows v_o_asked x1 = some res) : Ro l yX0_knows wsX0_knows ({ frames := 0, cells := 0, slots := 0, locals := 0 } : Room) D (tyL cI cJ cZ cB) [.ref a_o, .int x1] (WX0_knows cI cJ cZ cB a_o a_o_prices a_o_free a_o_sizes a_o_limits a_o_places a_o_paid a_o_queue v_o_asked v_o_waiting v_o_fee v_o_takings) (some (.int res)) := by
  refine Ro.of (cc := cX0_knows) (maxL := 2) (ret := (some .boolean)) (own := RX0) (by decide) rfl rfl (Nat.le_of_ble_eq_true rfl) ?_
  intro p e s m below meth c ls C hK hP hl
  obtain ⟨hx, hb, hr, hml, hts, hown, hlk⟩ := id C
  have hl : lv_has ls 2 [(0, .ref a_o), (1, .int x1)] := hl
  unfold fX0_knows at hf
  refine lv_iload_n hx hb dX0_knows_0 rfl (lv_at hl 1 rfl) ?_
  refine lv_iconst (v := (1 : Int32)) hx hb dX0_knows_1 (by decide) ?_
  refine lv_icmp_lt (tgt := 17) hx hb dX0_knows_2 (by decide) (fun hc => ?_) (fun hc => ?_)
  · have hf := pf_t hc hf
    refine lv_iconst (v := (0 : Int32)) hx hb dX0_knows_17 (by decide) ?_
    cases hf
    exact W.zret hx hb hr (nar_b (by decide)) (fun t ht hW => ⟨rfl, ht⟩) (fun _ h => absurd h List.not_mem_nil) dX0_knows_18
  · have hf := pf_f hc hf
    refine lv_iload_n hx hb dX0_knows_5 rfl (lv_at hl 1 rfl) ?_
    refine lv_aload_n hx hb dX0_knows_6 rfl (lv_at hl 0 rfl) ?_
    refine va_get (D := D) (ci := 0) (v := .int v_o_asked) (C := RX0) (T := TX0) (N := 11) hx hb hts iX0_knows_X0 hown hK.1 hP 0 rfl rfl 7 (by decide) (hts (.fieldLink RX0 46 "LoneSeats$Bookings" "asked" "I") (by decide +kernel)) (fun _ h9 => h9) rfl dX0_knows_7 ?_
    refine lv_icmp_gt (tgt := 17) hx hb dX0_knows_10 (by decide) (fun hc => ?_) (fun hc => ?_)
    · have hf := pf_t hc hf
      refine lv_iconst (v := (0 : Int32)) hx hb dX0_knows_17 (by decide) ?_
      cases hf
      exact W.zret hx hb hr (nar_b (by decide)) (fun t ht hW => ⟨rfl, ht⟩) (fun _ h => absurd h List.not_mem_nil) dX0_knows_18
    · have hf := pf_f hc hf
      refine lv_iconst (v := (1 : Int32)) hx hb dX0_knows_13 (by decide) ?_
      refine lv_goto (tgt := 18) hx hb dX0_knows_14 (by decide) ?_
      cases hf
      exact W.zret hx hb hr (nar_b (by decide)) (fun t ht hW => ⟨rfl, ht⟩) (fun _ h => absurd h List.not_mem_nil) dX0_knows_18
abbrev WX0_sizeOf (cI cJ cZ cB : ClassId) (a_o : Nat) (a_o_prices : Nat) (a_o_free : Nat) (a_o_sizes : Nat) (a_o_limits : Nat) (a_o_places : Nat) (a_o_paid : Nat) (a_o_queue : Nat) (v_o_asked : Int32) (v_o_waiting : Int32) (v_o_fee : Int32) (v_o_takings : Int32) (d_o_sizes : (Nat → Int32)) : va_W := [(a_o, .inr (0, [.ref a_o_prices, .ref a_o_free, .ref a_o_sizes, .ref a_o_limits, .ref a_o_places, .ref a_o_paid, .ref a_o_queue, .int v_o_asked, .int v_o_waiting, .int v_o_fee, .int v_o_takings])), (a_o_sizes, .inl (cI, (31, .inl d_o_sizes)))]
set_option maxRecDepth 20000 in
theorem iX0_sizeOf_X0 : ∀ w ∈ wsX00, w ∈ wsX0_sizeOf := by decide +kernel
def fX0_sizeOf (v_o_asked : Int32) (d_o_sizes : (Nat → Int32)) (x1 : Int32) : Option (Int32) := ((fX0_knows v_o_asked x1).bind fun q1 => (if q1 = 0 then some (0 : Int32) else (if x1 < 0 ∨ 31 ≤ (x1).toNatClampNeg then none else some (d_o_sizes (x1).toNatClampNeg))))
set_option maxRecDepth 100000 in
set_option maxHeartbeats 4000000 in
theorem kX0_sizeOf (l : Launch) (D : va_G) (cI cJ cZ cB : ClassId) (a_o : Nat) (a_o_prices : Nat) (a_o_free : Nat) (a_o_sizes : Nat) (a_o_limits : Nat) (a_o_places : Nat) (a_o_paid : Nat) (a_o_queue : Nat) (v_o_asked : Int32) (v_o_waiting : Int32) (v_o_fee : Int32) (v_o_takings : Int32) (d_o_sizes : (Nat → Int32)) (x1 : Int32) (res : Int32) (hf : fX0_sizeOf v_o_asked d_o_sizes x1 = some res) : Ro l yX0_sizeOf wsX0_sizeOf ({ frames := 1, cells := 0, slots := 0, locals := 21 } : Room) D (tyL cI cJ cZ cB) [.ref a_o, .int x1] (WX0_sizeOf cI cJ cZ cB a_o a_o_prices a_o_free a_o_sizes a_o_limits a_o_places a_o_paid a_o_queue v_o_asked v_o_waiting v_o_fee v_o_takings d_o_sizes) (some (.int res)) := by
  refine Ro.of (cc := cX0_sizeOf) (maxL := 2) (ret := (some .int)) (own := RX0) (by decide) rfl rfl (Nat.le_of_ble_eq_true rfl) ?_
  intro p e s m below meth c ls C hK hP hl
  obtain ⟨hx, hb, hr, hml, hts, hown, hlk⟩ := id C
  have hl : lv_has ls 2 [(0, .ref a_o), (1, .int x1)] := hl
  unfold fX0_sizeOf at hf
  refine lv_aload_n hx hb dX0_sizeOf_0 rfl (lv_at hl 0 rfl) ?_
  refine lv_iload_n hx hb dX0_sizeOf_1 rfl (lv_at hl 1 rfl) ?_
  obtain ⟨q1, hq2, hf⟩ := pf_b hf
  have hPc := hP.sub (ws' := (WX0_knows cI cJ cZ cB a_o a_o_prices a_o_free a_o_sizes a_o_limits a_o_places a_o_paid a_o_queue v_o_asked v_o_waiting v_o_fee v_o_takings)) [0] rfl
  refine cl_roi (va_runV (As := [.int x1]) (rest := []) ⟨hx, hb, hml, hown, hts⟩ (kX0_knows l D cI cJ cZ cB a_o a_o_prices a_o_free a_o_sizes a_o_limits a_o_places a_o_paid a_o_queue v_o_asked v_o_waiting v_o_fee v_o_takings x1 q1 hq2) (cwV 1 hts gX0_sizeOf_X0_knows rfl rfl rfl (by decide +kernel) ⟨Nat.le_of_ble_eq_true rfl, Nat.le_of_ble_eq_true rfl⟩) ⟨PRo.blind, va_recv hK.1 hPc (ci := 0) (q0 := 0) rfl rfl, PRo.at hK hPc⟩ rfl rfl hl.1 rfl (lv_room (Nat.le_of_ble_eq_true rfl)) dX0_sizeOf_2 ⟨Nat.zero_le _, Nat.zero_le _⟩) ?_
  refine lv_if_eq (tgt := 17) hx hb dX0_sizeOf_5 (by decide) (fun hc => ?_) (fun hc => ?_)
  · have hf := pf_t hc hf
    refine lv_iconst (v := (0 : Int32)) hx hb dX0_sizeOf_17 (by decide) ?_
    cases hf
    exact W.iret hx hb hr (fun t ht hW => ⟨rfl, ht⟩) (fun _ h => absurd h List.not_mem_nil) dX0_sizeOf_18
  · have hf := pf_f hc hf
    refine lv_aload_n hx hb dX0_sizeOf_8 rfl (lv_at hl 0 rfl) ?_
    refine va_get (D := D) (ci := 0) (v := .ref a_o_sizes) (C := RX0) (T := TX0) (N := 11) hx hb hts iX0_sizeOf_X0 hown hK.1 hP 0 rfl rfl 2 (by decide) (hts (.fieldLink RX0 18 "LoneSeats$Bookings" "sizes" "[I") (by decide +kernel)) (fun _ h9 => h9) rfl dX0_sizeOf_9 ?_
    refine lv_iload_n hx hb dX0_sizeOf_12 rfl (lv_at hl 1 rfl) ?_
    obtain ⟨hg3, hf⟩ := pf_x hf
    refine va_iald hx hb hK.1 hP 1 0 rfl rfl hg3 dX0_sizeOf_13 ?_
    refine lv_goto (tgt := 18) hx hb dX0_sizeOf_14 (by decide) ?_
    cases hf
    exact W.iret hx hb hr (fun t ht hW => ⟨rfl, ht⟩) (fun _ h => absurd h List.not_mem_nil) dX0_sizeOf_18
abbrev WX0_limitOf (cI cJ cZ cB : ClassId) (a_o : Nat) (a_o_prices : Nat) (a_o_free : Nat) (a_o_sizes : Nat) (a_o_limits : Nat) (a_o_places : Nat) (a_o_paid : Nat) (a_o_queue : Nat) (v_o_asked : Int32) (v_o_waiting : Int32) (v_o_fee : Int32) (v_o_takings : Int32) (d_o_limits : (Nat → Int32)) : va_W := [(a_o, .inr (0, [.ref a_o_prices, .ref a_o_free, .ref a_o_sizes, .ref a_o_limits, .ref a_o_places, .ref a_o_paid, .ref a_o_queue, .int v_o_asked, .int v_o_waiting, .int v_o_fee, .int v_o_takings])), (a_o_limits, .inl (cI, (31, .inl d_o_limits)))]
set_option maxRecDepth 20000 in
theorem iX0_limitOf_X0 : ∀ w ∈ wsX00, w ∈ wsX0_limitOf := by decide +kernel
def fX0_limitOf (v_o_asked : Int32) (d_o_limits : (Nat → Int32)) (x1 : Int32) : Option (Int32) := ((fX0_knows v_o_asked x1).bind fun q1 => (if q1 = 0 then some (0 : Int32) else (if x1 < 0 ∨ 31 ≤ (x1).toNatClampNeg then none else some (d_o_limits (x1).toNatClampNeg))))
set_option maxRecDepth 100000 in
set_option maxHeartbeats 4000000 in
theorem kX0_limitOf (l : Launch) (D : va_G) (cI cJ cZ cB : ClassId) (a_o : Nat) (a_o_prices : Nat) (a_o_free : Nat) (a_o_sizes : Nat) (a_o_limits : Nat) (a_o_places : Nat) (a_o_paid : Nat) (a_o_queue : Nat) (v_o_asked : Int32) (v_o_waiting : Int32) (v_o_fee : Int32) (v_o_takings : Int32) (d_o_limits : (Nat → Int32)) (x1 : Int32) (res : Int32) (hf : fX0_limitOf v_o_asked d_o_limits x1 = some res) : Ro l yX0_limitOf wsX0_limitOf ({ frames := 1, cells := 0, slots := 0, locals := 21 } : Room) D (tyL cI cJ cZ cB) [.ref a_o, .int x1] (WX0_limitOf cI cJ cZ cB a_o a_o_prices a_o_free a_o_sizes a_o_limits a_o_places a_o_paid a_o_queue v_o_asked v_o_waiting v_o_fee v_o_takings d_o_limits) (some (.int res)) := by
  refine Ro.of (cc := cX0_limitOf) (maxL := 2) (ret := (some .int)) (own := RX0) (by decide) rfl rfl (Nat.le_of_ble_eq_true rfl) ?_
  intro p e s m below meth c ls C hK hP hl
  obtain ⟨hx, hb, hr, hml, hts, hown, hlk⟩ := id C
  have hl : lv_has ls 2 [(0, .ref a_o), (1, .int x1)] := hl
  unfold fX0_limitOf at hf
  refine lv_aload_n hx hb dX0_limitOf_0 rfl (lv_at hl 0 rfl) ?_
  refine lv_iload_n hx hb dX0_limitOf_1 rfl (lv_at hl 1 rfl) ?_
  obtain ⟨q1, hq2, hf⟩ := pf_b hf
  have hPc := hP.sub (ws' := (WX0_knows cI cJ cZ cB a_o a_o_prices a_o_free a_o_sizes a_o_limits a_o_places a_o_paid a_o_queue v_o_asked v_o_waiting v_o_fee v_o_takings)) [0] rfl
  refine cl_roi (va_runV (As := [.int x1]) (rest := []) ⟨hx, hb, hml, hown, hts⟩ (kX0_knows l D cI cJ cZ cB a_o a_o_prices a_o_free a_o_sizes a_o_limits a_o_places a_o_paid a_o_queue v_o_asked v_o_waiting v_o_fee v_o_takings x1 q1 hq2) (cwV 1 hts gX0_limitOf_X0_knows rfl rfl rfl (by decide +kernel) ⟨Nat.le_of_ble_eq_true rfl, Nat.le_of_ble_eq_true rfl⟩) ⟨PRo.blind, va_recv hK.1 hPc (ci := 0) (q0 := 0) rfl rfl, PRo.at hK hPc⟩ rfl rfl hl.1 rfl (lv_room (Nat.le_of_ble_eq_true rfl)) dX0_limitOf_2 ⟨Nat.zero_le _, Nat.zero_le _⟩) ?_
  refine lv_if_eq (tgt := 17) hx hb dX0_limitOf_5 (by decide) (fun hc => ?_) (fun hc => ?_)
  · have hf := pf_t hc hf
    refine lv_iconst (v := (0 : Int32)) hx hb dX0_limitOf_17 (by decide) ?_
    cases hf
    exact W.iret hx hb hr (fun t ht hW => ⟨rfl, ht⟩) (fun _ h => absurd h List.not_mem_nil) dX0_limitOf_18
  · have hf := pf_f hc hf
    refine lv_aload_n hx hb dX0_limitOf_8 rfl (lv_at hl 0 rfl) ?_
    refine va_get (D := D) (ci := 0) (v := .ref a_o_limits) (C := RX0) (T := TX0) (N := 11) hx hb hts iX0_limitOf_X0 hown hK.1 hP 0 rfl rfl 3 (by decide) (hts (.fieldLink RX0 21 "LoneSeats$Bookings" "limits" "[I") (by decide +kernel)) (fun _ h9 => h9) rfl dX0_limitOf_9 ?_
    refine lv_iload_n hx hb dX0_limitOf_12 rfl (lv_at hl 1 rfl) ?_
    obtain ⟨hg3, hf⟩ := pf_x hf
    refine va_iald hx hb hK.1 hP 1 0 rfl rfl hg3 dX0_limitOf_13 ?_
    refine lv_goto (tgt := 18) hx hb dX0_limitOf_14 (by decide) ?_
    cases hf
    exact W.iret hx hb hr (fun t ht hW => ⟨rfl, ht⟩) (fun _ h => absurd h List.not_mem_nil) dX0_limitOf_18
abbrev WX0_placeOf (cI cJ cZ cB : ClassId) (a_o : Nat) (a_o_prices : Nat) (a_o_free : Nat) (a_o_sizes : Nat) (a_o_limits : Nat) (a_o_places : Nat) (a_o_paid : Nat) (a_o_queue : Nat) (v_o_asked : Int32) (v_o_waiting : Int32) (v_o_fee : Int32) (v_o_takings : Int32) (d_o_places : (Nat → Int32)) : va_W := [(a_o, .inr (0, [.ref a_o_prices, .ref a_o_free, .ref a_o_sizes, .ref a_o_limits, .ref a_o_places, .ref a_o_paid, .ref a_o_queue, .int v_o_asked, .int v_o_waiting, .int v_o_fee, .int v_o_takings])), (a_o_places, .inl (cI, (31, .inl d_o_places)))]
set_option maxRecDepth 20000 in
theorem iX0_placeOf_X0 : ∀ w ∈ wsX00, w ∈ wsX0_placeOf := by decide +kernel
def fX0_placeOf (v_o_asked : Int32) (d_o_places : (Nat → Int32)) (x1 : Int32) : Option (Int32) := ((fX0_knows v_o_asked x1).bind fun q1 => (if q1 = 0 then some (-9 : Int32) else (if x1 < 0 ∨ 31 ≤ (x1).toNatClampNeg then none else some (d_o_places (x1).toNatClampNeg))))
set_option maxRecDepth 100000 in
set_option maxHeartbeats 4000000 in
theorem kX0_placeOf (l : Launch) (D : va_G) (cI cJ cZ cB : ClassId) (a_o : Nat) (a_o_prices : Nat) (a_o_free : Nat) (a_o_sizes : Nat) (a_o_limits : Nat) (a_o_places : Nat) (a_o_paid : Nat) (a_o_queue : Nat) (v_o_asked : Int32) (v_o_waiting : Int32) (v_o_fee : Int32) (v_o_takings : Int32) (d_o_places : (Nat → Int32)) (x1 : Int32) (res : Int32) (hf : fX0_placeOf v_o_asked d_o_places x1 = some res) : Ro l yX0_placeOf wsX0_placeOf ({ frames := 1, cells := 0, slots := 0, locals := 21 } : Room) D (tyL cI cJ cZ cB) [.ref a_o, .int x1] (WX0_placeOf cI cJ cZ cB a_o a_o_prices a_o_free a_o_sizes a_o_limits a_o_places a_o_paid a_o_queue v_o_asked v_o_waiting v_o_fee v_o_takings d_o_places) (some (.int res)) := by
  refine Ro.of (cc := cX0_placeOf) (maxL := 2) (ret := (some .int)) (own := RX0) (by decide) rfl rfl (Nat.le_of_ble_eq_true rfl) ?_
  intro p e s m below meth c ls C hK hP hl
  obtain ⟨hx, hb, hr, hml, hts, hown, hlk⟩ := id C
  have hl : lv_has ls 2 [(0, .ref a_o), (1, .int x1)] := hl
  unfold fX0_placeOf at hf
  refine lv_aload_n hx hb dX0_placeOf_0 rfl (lv_at hl 0 rfl) ?_
  refine lv_iload_n hx hb dX0_placeOf_1 rfl (lv_at hl 1 rfl) ?_
  obtain ⟨q1, hq2, hf⟩ := pf_b hf
  have hPc := hP.sub (ws' := (WX0_knows cI cJ cZ cB a_o a_o_prices a_o_free a_o_sizes a_o_limits a_o_places a_o_paid a_o_queue v_o_asked v_o_waiting v_o_fee v_o_takings)) [0] rfl
  refine cl_roi (va_runV (As := [.int x1]) (rest := []) ⟨hx, hb, hml, hown, hts⟩ (kX0_knows l D cI cJ cZ cB a_o a_o_prices a_o_free a_o_sizes a_o_limits a_o_places a_o_paid a_o_queue v_o_asked v_o_waiting v_o_fee v_o_takings x1 q1 hq2) (cwV 1 hts gX0_placeOf_X0_knows rfl rfl rfl (by decide +kernel) ⟨Nat.le_of_ble_eq_true rfl, Nat.le_of_ble_eq_true rfl⟩) ⟨PRo.blind, va_recv hK.1 hPc (ci := 0) (q0 := 0) rfl rfl, PRo.at hK hPc⟩ rfl rfl hl.1 rfl (lv_room (Nat.le_of_ble_eq_true rfl)) dX0_placeOf_2 ⟨Nat.zero_le _, Nat.zero_le _⟩) ?_
  refine lv_if_eq (tgt := 17) hx hb dX0_placeOf_5 (by decide) (fun hc => ?_) (fun hc => ?_)
  · have hf := pf_t hc hf
    refine lv_bipush (v := (-9 : Int32)) hx hb dX0_placeOf_17 (by decide) ?_
    cases hf
    exact W.iret hx hb hr (fun t ht hW => ⟨rfl, ht⟩) (fun _ h => absurd h List.not_mem_nil) dX0_placeOf_19
  · have hf := pf_f hc hf
    refine lv_aload_n hx hb dX0_placeOf_8 rfl (lv_at hl 0 rfl) ?_
    refine va_get (D := D) (ci := 0) (v := .ref a_o_places) (C := RX0) (T := TX0) (N := 11) hx hb hts iX0_placeOf_X0 hown hK.1 hP 0 rfl rfl 4 (by decide) (hts (.fieldLink RX0 24 "LoneSeats$Bookings" "places" "[I") (by decide +kernel)) (fun _ h9 => h9) rfl dX0_placeOf_9 ?_
    refine lv_iload_n hx hb dX0_placeOf_12 rfl (lv_at hl 1 rfl) ?_
    obtain ⟨hg3, hf⟩ := pf_x hf
    refine va_iald hx hb hK.1 hP 1 0 rfl rfl hg3 dX0_placeOf_13 ?_
    refine lv_goto (tgt := 19) hx hb dX0_placeOf_14 (by decide) ?_
    cases hf
    exact W.iret hx hb hr (fun t ht hW => ⟨rfl, ht⟩) (fun _ h => absurd h List.not_mem_nil) dX0_placeOf_19
abbrev WX0_paidBy (cI cJ cZ cB : ClassId) (a_o : Nat) (a_o_prices : Nat) (a_o_free : Nat) (a_o_sizes : Nat) (a_o_limits : Nat) (a_o_places : Nat) (a_o_paid : Nat) (a_o_queue : Nat) (v_o_asked : Int32) (v_o_waiting : Int32) (v_o_fee : Int32) (v_o_takings : Int32) (d_o_paid : (Nat → Int32)) : va_W := [(a_o, .inr (0, [.ref a_o_prices, .ref a_o_free, .ref a_o_sizes, .ref a_o_limits, .ref a_o_places, .ref a_o_paid, .ref a_o_queue, .int v_o_asked, .int v_o_waiting, .int v_o_fee, .int v_o_takings])), (a_o_paid, .inl (cI, (31, .inl d_o_paid)))]
set_option maxRecDepth 20000 in
theorem iX0_paidBy_X0 : ∀ w ∈ wsX00, w ∈ wsX0_paidBy := by decide +kernel
def fX0_paidBy (v_o_asked : Int32) (d_o_paid : (Nat → Int32)) (x1 : Int32) : Option (Int32) := ((fX0_knows v_o_asked x1).bind fun q1 => (if q1 = 0 then some (0 : Int32) else (if x1 < 0 ∨ 31 ≤ (x1).toNatClampNeg then none else some (d_o_paid (x1).toNatClampNeg))))
set_option maxRecDepth 100000 in
set_option maxHeartbeats 4000000 in
theorem kX0_paidBy (l : Launch) (D : va_G) (cI cJ cZ cB : ClassId) (a_o : Nat) (a_o_prices : Nat) (a_o_free : Nat) (a_o_sizes : Nat) (a_o_limits : Nat) (a_o_places : Nat) (a_o_paid : Nat) (a_o_queue : Nat) (v_o_asked : Int32) (v_o_waiting : Int32) (v_o_fee : Int32) (v_o_takings : Int32) (d_o_paid : (Nat → Int32)) (x1 : Int32) (res : Int32) (hf : fX0_paidBy v_o_asked d_o_paid x1 = some res) : Ro l yX0_paidBy wsX0_paidBy ({ frames := 1, cells := 0, slots := 0, locals := 21 } : Room) D (tyL cI cJ cZ cB) [.ref a_o, .int x1] (WX0_paidBy cI cJ cZ cB a_o a_o_prices a_o_free a_o_sizes a_o_limits a_o_places a_o_paid a_o_queue v_o_asked v_o_waiting v_o_fee v_o_takings d_o_paid) (some (.int res)) := by
  refine Ro.of (cc := cX0_paidBy) (maxL := 2) (ret := (some .int)) (own := RX0) (by decide) rfl rfl (Nat.le_of_ble_eq_true rfl) ?_
  intro p e s m below meth c ls C hK hP hl
  obtain ⟨hx, hb, hr, hml, hts, hown, hlk⟩ := id C
  have hl : lv_has ls 2 [(0, .ref a_o), (1, .int x1)] := hl
  unfold fX0_paidBy at hf
  refine lv_aload_n hx hb dX0_paidBy_0 rfl (lv_at hl 0 rfl) ?_
  refine lv_iload_n hx hb dX0_paidBy_1 rfl (lv_at hl 1 rfl) ?_
  obtain ⟨q1, hq2, hf⟩ := pf_b hf
  have hPc := hP.sub (ws' := (WX0_knows cI cJ cZ cB a_o a_o_prices a_o_free a_o_sizes a_o_limits a_o_places a_o_paid a_o_queue v_o_asked v_o_waiting v_o_fee v_o_takings)) [0] rfl
  refine cl_roi (va_runV (As := [.int x1]) (rest := []) ⟨hx, hb, hml, hown, hts⟩ (kX0_knows l D cI cJ cZ cB a_o a_o_prices a_o_free a_o_sizes a_o_limits a_o_places a_o_paid a_o_queue v_o_asked v_o_waiting v_o_fee v_o_takings x1 q1 hq2) (cwV 1 hts gX0_paidBy_X0_knows rfl rfl rfl (by decide +kernel) ⟨Nat.le_of_ble_eq_true rfl, Nat.le_of_ble_eq_true rfl⟩) ⟨PRo.blind, va_recv hK.1 hPc (ci := 0) (q0 := 0) rfl rfl, PRo.at hK hPc⟩ rfl rfl hl.1 rfl (lv_room (Nat.le_of_ble_eq_true rfl)) dX0_paidBy_2 ⟨Nat.zero_le _, Nat.zero_le _⟩) ?_
  refine lv_if_eq (tgt := 17) hx hb dX0_paidBy_5 (by decide) (fun hc => ?_) (fun hc => ?_)
  · have hf := pf_t hc hf
    refine lv_iconst (v := (0 : Int32)) hx hb dX0_paidBy_17 (by decide) ?_
    cases hf
    exact W.iret hx hb hr (fun t ht hW => ⟨rfl, ht⟩) (fun _ h => absurd h List.not_mem_nil) dX0_paidBy_18
  · have hf := pf_f hc hf
    refine lv_aload_n hx hb dX0_paidBy_8 rfl (lv_at hl 0 rfl) ?_
    refine va_get (D := D) (ci := 0) (v := .ref a_o_paid) (C := RX0) (T := TX0) (N := 11) hx hb hts iX0_paidBy_X0 hown hK.1 hP 0 rfl rfl 5 (by decide) (hts (.fieldLink RX0 27 "LoneSeats$Bookings" "paid" "[I") (by decide +kernel)) (fun _ h9 => h9) rfl dX0_paidBy_9 ?_
    refine lv_iload_n hx hb dX0_paidBy_12 rfl (lv_at hl 1 rfl) ?_
    obtain ⟨hg3, hf⟩ := pf_x hf
    refine va_iald hx hb hK.1 hP 1 0 rfl rfl hg3 dX0_paidBy_13 ?_
    refine lv_goto (tgt := 18) hx hb dX0_paidBy_14 (by decide) ?_
    cases hf
    exact W.iret hx hb hr (fun t ht hW => ⟨rfl, ht⟩) (fun _ h => absurd h List.not_mem_nil) dX0_paidBy_18
abbrev WX0_isSeated (cI cJ cZ cB : ClassId) (a_o : Nat) (a_o_prices : Nat) (a_o_free : Nat) (a_o_sizes : Nat) (a_o_limits : Nat) (a_o_places : Nat) (a_o_paid : Nat) (a_o_queue : Nat) (v_o_asked : Int32) (v_o_waiting : Int32) (v_o_fee : Int32) (v_o_takings : Int32) (d_o_places : (Nat → Int32)) : va_W := [(a_o, .inr (0, [.ref a_o_prices, .ref a_o_free, .ref a_o_sizes, .ref a_o_limits, .ref a_o_places, .ref a_o_paid, .ref a_o_queue, .int v_o_asked, .int v_o_waiting, .int v_o_fee, .int v_o_takings])), (a_o_places, .inl (cI, (31, .inl d_o_places)))]
def fX0_isSeated (v_o_asked : Int32) (d_o_places : (Nat → Int32)) (x1 : Int32) : Option (Int32) := ((fX0_placeOf v_o_asked d_o_places x1).bind fun q1 => (if q1 = (-9 : Int32) then some (0 : Int32) else some (1 : Int32)))
set_option maxRecDepth 100000 in
set_option maxHeartbeats 4000000 in
theorem kX0_isSeated (l : Launch) (D : va_G) (cI cJ cZ cB : ClassId) (a_o : Nat) (a_o_prices : Nat) (a_o_free : Nat) (a_o_sizes : Nat) (a_o_limits : Nat) (a_o_places : Nat) (a_o_paid : Nat) (a_o_queue : Nat) (v_o_asked : Int32) (v_o_waiting : Int32) (v_o_fee : Int32) (v_o_takings : Int32) (d_o_places : (Nat → Int32)) (x1 : Int32) (res : Int32) (hf : fX0_isSeated v_o_asked d_o_places x1 = some res) : Ro l yX0_isSeated wsX0_isSeated ({ frames := 2, cells := 0, slots := 0, locals := 42 } : Room) D (tyL cI cJ cZ cB) [.ref a_o, .int x1] (WX0_isSeated cI cJ cZ cB a_o a_o_prices a_o_free a_o_sizes a_o_limits a_o_places a_o_paid a_o_queue v_o_asked v_o_waiting v_o_fee v_o_takings d_o_places) (some (.int res)) := by
  refine Ro.of (cc := cX0_isSeated) (maxL := 2) (ret := (some .boolean)) (own := RX0) (by decide) rfl rfl (Nat.le_of_ble_eq_true rfl) ?_
  intro p e s m below meth c ls C hK hP hl
  obtain ⟨hx, hb, hr, hml, hts, hown, hlk⟩ := id C
  have hl : lv_has ls 2 [(0, .ref a_o), (1, .int x1)] := hl
  unfold fX0_isSeated at hf
  refine lv_aload_n hx hb dX0_isSeated_0 rfl (lv_at hl 0 rfl) ?_
  refine lv_iload_n hx hb dX0_isSeated_1 rfl (lv_at hl 1 rfl) ?_
  obtain ⟨q1, hq2, hf⟩ := pf_b hf
  have hPc := hP.sub (ws' := (WX0_placeOf cI cJ cZ cB a_o a_o_prices a_o_free a_o_sizes a_o_limits a_o_places a_o_paid a_o_queue v_o_asked v_o_waiting v_o_fee v_o_takings d_o_places)) [0, 1] rfl
  refine cl_roi (va_runV (As := [.int x1]) (rest := []) ⟨hx, hb, hml, hown, hts⟩ (kX0_placeOf l D cI cJ cZ cB a_o a_o_prices a_o_free a_o_sizes a_o_limits a_o_places a_o_paid a_o_queue v_o_asked v_o_waiting v_o_fee v_o_takings d_o_places x1 q1 hq2) (cwV 1 hts gX0_isSeated_X0_placeOf rfl rfl rfl (by decide +kernel) ⟨Nat.le_of_ble_eq_true rfl, Nat.le_of_ble_eq_true rfl⟩) ⟨PRo.blind, va_recv hK.1 hPc (ci := 0) (q0 := 0) rfl rfl, PRo.at hK hPc⟩ rfl rfl hl.1 rfl (lv_room (Nat.le_of_ble_eq_true rfl)) dX0_isSeated_2 ⟨Nat.zero_le _, Nat.zero_le _⟩) ?_
  refine lv_bipush (v := (-9 : Int32)) hx hb dX0_isSeated_5 (by decide) ?_
  refine lv_icmp_eq (tgt := 14) hx hb dX0_isSeated_7 (by decide) (fun hc => ?_) (fun hc => ?_)
  · have hf := pf_t hc hf
    refine lv_iconst (v := (0 : Int32)) hx hb dX0_isSeated_14 (by decide) ?_
    cases hf
    exact W.zret hx hb hr (nar_b (by decide)) (fun t ht hW => ⟨rfl, ht⟩) (fun _ h => absurd h List.not_mem_nil) dX0_isSeated_15
  · have hf := pf_f hc hf
    refine lv_iconst (v := (1 : Int32)) hx hb dX0_isSeated_10 (by decide) ?_
    refine lv_goto (tgt := 15) hx hb dX0_isSeated_11 (by decide) ?_
    cases hf
    exact W.zret hx hb hr (nar_b (by decide)) (fun t ht hW => ⟨rfl, ht⟩) (fun _ h => absurd h List.not_mem_nil) dX0_isSeated_15
abbrev WX0_positionOf (cI cJ cZ cB : ClassId) (a_o : Nat) (a_o_prices : Nat) (a_o_free : Nat) (a_o_sizes : Nat) (a_o_limits : Nat) (a_o_places : Nat) (a_o_paid : Nat) (a_o_queue : Nat) (v_o_asked : Int32) (v_o_waiting : Int32) (v_o_fee : Int32) (v_o_takings : Int32) (d_o_queue : (Nat → Int32)) : va_W := [(a_o, .inr (0, [.ref a_o_prices, .ref a_o_free, .ref a_o_sizes, .ref a_o_limits, .ref a_o_places, .ref a_o_paid, .ref a_o_queue, .int v_o_asked, .int v_o_waiting, .int v_o_fee, .int v_o_takings])), (a_o_queue, .inl (cI, (5, .inl d_o_queue)))]
set_option maxRecDepth 20000 in
theorem iX0_positionOf_X0 : ∀ w ∈ wsX00, w ∈ wsX0_positionOf := by decide +kernel
def fX0_positionOf_2 : Nat → Int32 → (Nat → Int32) → Int32 → Int32 → Option (Int32)
  | 0, _, _, _, _ => none
  | n + 1, v_o_waiting, d_o_queue, x1, x2 => (if v_o_waiting ≤ x2 then some (-9 : Int32) else (if (5 : Int32) ≤ x2 then some (-9 : Int32) else (if x2 < 0 ∨ 5 ≤ (x2).toNatClampNeg then none else (if (d_o_queue (x2).toNatClampNeg) = x1 then some x2 else fX0_positionOf_2 n v_o_waiting d_o_queue x1 (x2 + (1 : Int32))))))
set_option maxRecDepth 100000 in
set_option maxHeartbeats 4000000 in
theorem tX0_positionOf_2 {p : Program} {l : Launch} {e : Env} {s : State} {m : MethodId} {args : Array Value} {below : List Frame} {meth : Method} {c : Code} {D : va_G} {cI cJ cZ cB : ClassId} {a_o : Nat} {a_o_prices : Nat} {a_o_free : Nat} {a_o_sizes : Nat} {a_o_limits : Nat} {a_o_places : Nat} {a_o_paid : Nat} {a_o_queue : Nat} (C : Cx p s m args meth c cX0_positionOf 3 (some .int) wsX0_positionOf RX0) (hK : Kw D (tyL cI cJ cZ cB) s) : ∀ (n : Nat), ∀ (v_o_asked : Int32) (v_o_waiting : Int32) (v_o_fee : Int32) (v_o_takings : Int32) (d_o_queue : (Nat → Int32)) (x1 : Int32) (x2 : Int32) (ls : Array Slot) (res : Int32), va_P D vwCl (WX0_positionOf cI cJ cZ cB a_o a_o_prices a_o_free a_o_sizes a_o_limits a_o_places a_o_paid a_o_queue v_o_asked v_o_waiting v_o_fee v_o_takings d_o_queue) s.heap → lv_has ls 3 [(0, .ref a_o), (1, .int x1), (2, .int x2)] → fX0_positionOf_2 n v_o_waiting d_o_queue x1 x2 = some res → W p l e ({ frames := 0, cells := 0, slots := 0, locals := 0 } : Room) s m args below meth c s.heap [] 0 0 (MQ below (QRo (some (.int res))) args s 0 0 (fun _ => False)) (F0 m 2 ls []) := by
  obtain ⟨hx, hb, hr, hml, hts, hown, hlk⟩ := id C
  intro n
  induction n with
  | zero =>
    intro v_o_asked v_o_waiting v_o_fee v_o_takings d_o_queue x1 x2 ls res hP hl hf
    rw [fX0_positionOf_2] at hf
    cases hf
  | succ n ih =>
    intro v_o_asked v_o_waiting v_o_fee v_o_takings d_o_queue x1 x2 ls res hP hl hf
    rw [fX0_positionOf_2] at hf
    refine lv_iload_n hx hb dX0_positionOf_2 rfl (lv_at hl 2 rfl) ?_
    refine lv_aload_n hx hb dX0_positionOf_3 rfl (lv_at hl 0 rfl) ?_
    refine va_get (D := D) (ci := 0) (v := .int v_o_waiting) (C := RX0) (T := TX0) (N := 11) hx hb hts iX0_positionOf_X0 hown hK.1 hP 0 rfl rfl 8 (by decide) (hts (.fieldLink RX0 50 "LoneSeats$Bookings" "waiting" "I") (by decide +kernel)) (fun _ h9 => h9) rfl dX0_positionOf_4 ?_
    refine lv_icmp_ge (tgt := 33) hx hb dX0_positionOf_7 (by decide) (fun hc => ?_) (fun hc => ?_)
    · have hf := pf_t hc hf
      refine lv_bipush (v := (-9 : Int32)) hx hb dX0_positionOf_33 (by decide) ?_
      cases hf
      exact W.iret hx hb hr (fun t ht hW => ⟨rfl, ht⟩) (fun _ h => absurd h List.not_mem_nil) dX0_positionOf_35
    · have hf := pf_f hc hf
      refine lv_iload_n hx hb dX0_positionOf_10 rfl (lv_at hl 2 rfl) ?_
      refine lv_iconst (v := (5 : Int32)) hx hb dX0_positionOf_11 (by decide) ?_
      refine lv_icmp_ge (tgt := 33) hx hb dX0_positionOf_12 (by decide) (fun hc => ?_) (fun hc => ?_)
      · have hf := pf_t hc hf
        refine lv_bipush (v := (-9 : Int32)) hx hb dX0_positionOf_33 (by decide) ?_
        cases hf
        exact W.iret hx hb hr (fun t ht hW => ⟨rfl, ht⟩) (fun _ h => absurd h List.not_mem_nil) dX0_positionOf_35
      · have hf := pf_f hc hf
        refine lv_aload_n hx hb dX0_positionOf_15 rfl (lv_at hl 0 rfl) ?_
        refine va_get (D := D) (ci := 0) (v := .ref a_o_queue) (C := RX0) (T := TX0) (N := 11) hx hb hts iX0_positionOf_X0 hown hK.1 hP 0 rfl rfl 6 (by decide) (hts (.fieldLink RX0 30 "LoneSeats$Bookings" "queue" "[I") (by decide +kernel)) (fun _ h9 => h9) rfl dX0_positionOf_16 ?_
        refine lv_iload_n hx hb dX0_positionOf_19 rfl (lv_at hl 2 rfl) ?_
        obtain ⟨hg1, hf⟩ := pf_x hf
        refine va_iald hx hb hK.1 hP 1 0 rfl rfl hg1 dX0_positionOf_20 ?_
        refine lv_iload_n hx hb dX0_positionOf_21 rfl (lv_at hl 1 rfl) ?_
        refine lv_icmp_ne (tgt := 27) hx hb dX0_positionOf_22 (by decide) (fun hc => ?_) (fun hc => ?_)
        · have hf := pf_f hc hf
          refine lv_iinc (v := (x2 + (1 : Int32))) (lv' := [(2, .int (x2 + (1 : Int32))), (0, .ref a_o), (1, .int x1)]) hx hb dX0_positionOf_27 hl (k := 2) rfl rfl (by decide) rfl (fun ls hl => ?_)
          refine lv_goto (tgt := 2) hx hb dX0_positionOf_30 (by decide) ?_
          exact ih v_o_asked v_o_waiting v_o_fee v_o_takings d_o_queue x1 (x2 + (1 : Int32)) ls _ hP (lv_sub hl [1, 2, 0] rfl) hf
        · have hf := pf_t hc hf
          refine lv_iload_n hx hb dX0_positionOf_25 rfl (lv_at hl 2 rfl) ?_
          cases hf
          exact W.iret hx hb hr (fun t ht hW => ⟨rfl, ht⟩) (fun _ h => absurd h List.not_mem_nil) dX0_positionOf_26
def fX0_positionOf (v_o_waiting : Int32) (d_o_queue : (Nat → Int32)) (x1 : Int32) : Option (Int32) := fX0_positionOf_2 FU v_o_waiting d_o_queue x1 (0 : Int32)
set_option maxRecDepth 100000 in
set_option maxHeartbeats 4000000 in
theorem kX0_positionOf (l : Launch) (D : va_G) (cI cJ cZ cB : ClassId) (a_o : Nat) (a_o_prices : Nat) (a_o_free : Nat) (a_o_sizes : Nat) (a_o_limits : Nat) (a_o_places : Nat) (a_o_paid : Nat) (a_o_queue : Nat) (v_o_asked : Int32) (v_o_waiting : Int32) (v_o_fee : Int32) (v_o_takings : Int32) (d_o_queue : (Nat → Int32)) (x1 : Int32) (res : Int32) (hf : fX0_positionOf v_o_waiting d_o_queue x1 = some res) : Ro l yX0_positionOf wsX0_positionOf ({ frames := 0, cells := 0, slots := 0, locals := 0 } : Room) D (tyL cI cJ cZ cB) [.ref a_o, .int x1] (WX0_positionOf cI cJ cZ cB a_o a_o_prices a_o_free a_o_sizes a_o_limits a_o_places a_o_paid a_o_queue v_o_asked v_o_waiting v_o_fee v_o_takings d_o_queue) (some (.int res)) := by
  refine Ro.of (cc := cX0_positionOf) (maxL := 3) (ret := (some .int)) (own := RX0) (by decide) rfl rfl (Nat.le_of_ble_eq_true rfl) ?_
  intro p e s m below meth c ls C hK hP hl
  obtain ⟨hx, hb, hr, hml, hts, hown, hlk⟩ := id C
  have hl : lv_has ls 3 [(0, .ref a_o), (1, .int x1)] := hl
  unfold fX0_positionOf at hf
  refine lv_iconst (v := (0 : Int32)) hx hb dX0_positionOf_0 (by decide) ?_
  refine lv_istore_n (lv' := [(2, .int (0 : Int32)), (0, .ref a_o), (1, .int x1)]) hx hb dX0_positionOf_1 rfl hl (by decide) rfl (fun ls hl => ?_)
  exact tX0_positionOf_2 C hK  FU v_o_asked v_o_waiting v_o_fee v_o_takings d_o_queue x1 (0 : Int32) ls _ hP (lv_sub hl [1, 2, 0] rfl) hf
abbrev WX0_isWaiting (cI cJ cZ cB : ClassId) (a_o : Nat) (a_o_prices : Nat) (a_o_free : Nat) (a_o_sizes : Nat) (a_o_limits : Nat) (a_o_places : Nat) (a_o_paid : Nat) (a_o_queue : Nat) (v_o_asked : Int32) (v_o_waiting : Int32) (v_o_fee : Int32) (v_o_takings : Int32) (d_o_queue : (Nat → Int32)) : va_W := [(a_o, .inr (0, [.ref a_o_prices, .ref a_o_free, .ref a_o_sizes, .ref a_o_limits, .ref a_o_places, .ref a_o_paid, .ref a_o_queue, .int v_o_asked, .int v_o_waiting, .int v_o_fee, .int v_o_takings])), (a_o_queue, .inl (cI, (5, .inl d_o_queue)))]
def fX0_isWaiting (v_o_waiting : Int32) (d_o_queue : (Nat → Int32)) (x1 : Int32) : Option (Int32) := ((fX0_positionOf v_o_waiting d_o_queue x1).bind fun q1 => (if q1 = (-9 : Int32) then some (0 : Int32) else some (1 : Int32)))
set_option maxRecDepth 100000 in
set_option maxHeartbeats 4000000 in
theorem kX0_isWaiting (l : Launch) (D : va_G) (cI cJ cZ cB : ClassId) (a_o : Nat) (a_o_prices : Nat) (a_o_free : Nat) (a_o_sizes : Nat) (a_o_limits : Nat) (a_o_places : Nat) (a_o_paid : Nat) (a_o_queue : Nat) (v_o_asked : Int32) (v_o_waiting : Int32) (v_o_fee : Int32) (v_o_takings : Int32) (d_o_queue : (Nat → Int32)) (x1 : Int32) (res : Int32) (hf : fX0_isWaiting v_o_waiting d_o_queue x1 = some res) : Ro l yX0_isWaiting wsX0_isWaiting ({ frames := 1, cells := 0, slots := 0, locals := 22 } : Room) D (tyL cI cJ cZ cB) [.ref a_o, .int x1] (WX0_isWaiting cI cJ cZ cB a_o a_o_prices a_o_free a_o_sizes a_o_limits a_o_places a_o_paid a_o_queue v_o_asked v_o_waiting v_o_fee v_o_takings d_o_queue) (some (.int res)) := by
  refine Ro.of (cc := cX0_isWaiting) (maxL := 2) (ret := (some .boolean)) (own := RX0) (by decide) rfl rfl (Nat.le_of_ble_eq_true rfl) ?_
  intro p e s m below meth c ls C hK hP hl
  obtain ⟨hx, hb, hr, hml, hts, hown, hlk⟩ := id C
  have hl : lv_has ls 2 [(0, .ref a_o), (1, .int x1)] := hl
  unfold fX0_isWaiting at hf
  refine lv_aload_n hx hb dX0_isWaiting_0 rfl (lv_at hl 0 rfl) ?_
  refine lv_iload_n hx hb dX0_isWaiting_1 rfl (lv_at hl 1 rfl) ?_
  obtain ⟨q1, hq2, hf⟩ := pf_b hf
  have hPc := hP.sub (ws' := (WX0_positionOf cI cJ cZ cB a_o a_o_prices a_o_free a_o_sizes a_o_limits a_o_places a_o_paid a_o_queue v_o_asked v_o_waiting v_o_fee v_o_takings d_o_queue)) [0, 1] rfl
  refine cl_roi (va_runV (As := [.int x1]) (rest := []) ⟨hx, hb, hml, hown, hts⟩ (kX0_positionOf l D cI cJ cZ cB a_o a_o_prices a_o_free a_o_sizes a_o_limits a_o_places a_o_paid a_o_queue v_o_asked v_o_waiting v_o_fee v_o_takings d_o_queue x1 q1 hq2) (cwV 1 hts gX0_isWaiting_X0_positionOf rfl rfl rfl (by decide +kernel) ⟨Nat.le_of_ble_eq_true rfl, Nat.le_of_ble_eq_true rfl⟩) ⟨PRo.blind, va_recv hK.1 hPc (ci := 0) (q0 := 0) rfl rfl, PRo.at hK hPc⟩ rfl rfl hl.1 rfl (lv_room (Nat.le_of_ble_eq_true rfl)) dX0_isWaiting_2 ⟨Nat.zero_le _, Nat.zero_le _⟩) ?_
  refine lv_bipush (v := (-9 : Int32)) hx hb dX0_isWaiting_5 (by decide) ?_
  refine lv_icmp_eq (tgt := 14) hx hb dX0_isWaiting_7 (by decide) (fun hc => ?_) (fun hc => ?_)
  · have hf := pf_t hc hf
    refine lv_iconst (v := (0 : Int32)) hx hb dX0_isWaiting_14 (by decide) ?_
    cases hf
    exact W.zret hx hb hr (nar_b (by decide)) (fun t ht hW => ⟨rfl, ht⟩) (fun _ h => absurd h List.not_mem_nil) dX0_isWaiting_15
  · have hf := pf_f hc hf
    refine lv_iconst (v := (1 : Int32)) hx hb dX0_isWaiting_10 (by decide) ?_
    refine lv_goto (tgt := 15) hx hb dX0_isWaiting_11 (by decide) ?_
    cases hf
    exact W.zret hx hb hr (nar_b (by decide)) (fun t ht hW => ⟨rfl, ht⟩) (fun _ h => absurd h List.not_mem_nil) dX0_isWaiting_15
abbrev WX0_seated (cI cJ cZ cB : ClassId) (a_o : Nat) (a_o_prices : Nat) (a_o_free : Nat) (a_o_sizes : Nat) (a_o_limits : Nat) (a_o_places : Nat) (a_o_paid : Nat) (a_o_queue : Nat) (v_o_asked : Int32) (v_o_waiting : Int32) (v_o_fee : Int32) (v_o_takings : Int32) (d_o_places : (Nat → Int32)) : va_W := [(a_o, .inr (0, [.ref a_o_prices, .ref a_o_free, .ref a_o_sizes, .ref a_o_limits, .ref a_o_places, .ref a_o_paid, .ref a_o_queue, .int v_o_asked, .int v_o_waiting, .int v_o_fee, .int v_o_takings])), (a_o_places, .inl (cI, (31, .inl d_o_places)))]
set_option maxRecDepth 20000 in
theorem iX0_seated_X0 : ∀ w ∈ wsX00, w ∈ wsX0_seated := by decide +kernel
def fX0_seated_4 : Nat → Int32 → (Nat → Int32) → Int32 → Int32 → Option (Int32)
  | 0, _, _, _, _ => none
  | n + 1, v_o_asked, d_o_places, x1, x2 => (if v_o_asked < x2 then some x1 else ((fX0_isSeated v_o_asked d_o_places x2).bind fun q1 => (if q1 = 0 then fX0_seated_4 n v_o_asked d_o_places x1 (x2 + (1 : Int32)) else fX0_seated_4 n v_o_asked d_o_places (x1 + (1 : Int32)) (x2 + (1 : Int32)))))
set_option maxRecDepth 100000 in
set_option maxHeartbeats 4000000 in
theorem tX0_seated_4 {p : Program} {l : Launch} {e : Env} {s : State} {m : MethodId} {args : Array Value} {below : List Frame} {meth : Method} {c : Code} {D : va_G} {cI cJ cZ cB : ClassId} {a_o : Nat} {a_o_prices : Nat} {a_o_free : Nat} {a_o_sizes : Nat} {a_o_limits : Nat} {a_o_places : Nat} {a_o_paid : Nat} {a_o_queue : Nat} (C : Cx p s m args meth c cX0_seated 3 (some .int) wsX0_seated RX0) (hK : Kw D (tyL cI cJ cZ cB) s) : ∀ (n : Nat), ∀ (v_o_asked : Int32) (v_o_waiting : Int32) (v_o_fee : Int32) (v_o_takings : Int32) (d_o_places : (Nat → Int32)) (x1 : Int32) (x2 : Int32) (ls : Array Slot) (res : Int32), va_P D vwCl (WX0_seated cI cJ cZ cB a_o a_o_prices a_o_free a_o_sizes a_o_limits a_o_places a_o_paid a_o_queue v_o_asked v_o_waiting v_o_fee v_o_takings d_o_places) s.heap → lv_has ls 3 [(0, .ref a_o), (1, .int x1), (2, .int x2)] → fX0_seated_4 n v_o_asked d_o_places x1 x2 = some res → W p l e ({ frames := 3, cells := 0, slots := 0, locals := 63 } : Room) s m args below meth c s.heap [] 0 0 (MQ below (QRo (some (.int res))) args s 0 0 (fun _ => False)) (F0 m 4 ls []) := by
  obtain ⟨hx, hb, hr, hml, hts, hown, hlk⟩ := id C
  intro n
  induction n with
  | zero =>
    intro v_o_asked v_o_waiting v_o_fee v_o_takings d_o_places x1 x2 ls res hP hl hf
    rw [fX0_seated_4] at hf
    cases hf
  | succ n ih =>
    intro v_o_asked v_o_waiting v_o_fee v_o_takings d_o_places x1 x2 ls res hP hl hf
    rw [fX0_seated_4] at hf
    refine lv_iload_n hx hb dX0_seated_4 rfl (lv_at hl 2 rfl) ?_
    refine lv_aload_n hx hb dX0_seated_5 rfl (lv_at hl 0 rfl) ?_
    refine va_get (D := D) (ci := 0) (v := .int v_o_asked) (C := RX0) (T := TX0) (N := 11) hx hb hts iX0_seated_X0 hown hK.1 hP 0 rfl rfl 7 (by decide) (hts (.fieldLink RX0 46 "LoneSeats$Bookings" "asked" "I") (by decide +kernel)) (fun _ h9 => h9) rfl dX0_seated_6 ?_
    refine lv_icmp_gt (tgt := 29) hx hb dX0_seated_9 (by decide) (fun hc => ?_) (fun hc => ?_)
    · have hf := pf_t hc hf
      refine lv_iload_n hx hb dX0_seated_29 rfl (lv_at hl 1 rfl) ?_
      cases hf
      exact W.iret hx hb hr (fun t ht hW => ⟨rfl, ht⟩) (fun _ h => absurd h List.not_mem_nil) dX0_seated_30
    · have hf := pf_f hc hf
      refine lv_aload_n hx hb dX0_seated_12 rfl (lv_at hl 0 rfl) ?_
      refine lv_iload_n hx hb dX0_seated_13 rfl (lv_at hl 2 rfl) ?_
      obtain ⟨q1, hq2, hf⟩ := pf_b hf
      have hPc := hP.sub (ws' := (WX0_isSeated cI cJ cZ cB a_o a_o_prices a_o_free a_o_sizes a_o_limits a_o_places a_o_paid a_o_queue v_o_asked v_o_waiting v_o_fee v_o_takings d_o_places)) [0, 1] rfl
      refine cl_roi (va_runV (As := [.int x2]) (rest := []) ⟨hx, hb, hml, hown, hts⟩ (kX0_isSeated l D cI cJ cZ cB a_o a_o_prices a_o_free a_o_sizes a_o_limits a_o_places a_o_paid a_o_queue v_o_asked v_o_waiting v_o_fee v_o_takings d_o_places x2 q1 hq2) (cwV 1 hts gX0_seated_X0_isSeated rfl rfl rfl (by decide +kernel) ⟨Nat.le_of_ble_eq_true rfl, Nat.le_of_ble_eq_true rfl⟩) ⟨PRo.blind, va_recv hK.1 hPc (ci := 0) (q0 := 0) rfl rfl, PRo.at hK hPc⟩ rfl rfl hl.1 rfl (lv_room (Nat.le_of_ble_eq_true rfl)) dX0_seated_14 ⟨Nat.zero_le _, Nat.zero_le _⟩) ?_
      refine lv_if_eq (tgt := 23) hx hb dX0_seated_17 (by decide) (fun hc => ?_) (fun hc => ?_)
      · have hf := pf_t hc hf
        refine lv_iinc (v := (x2 + (1 : Int32))) (lv' := [(2, .int (x2 + (1 : Int32))), (0, .ref a_o), (1, .int x1)]) hx hb dX0_seated_23 hl (k := 2) rfl rfl (by decide) rfl (fun ls hl => ?_)
        refine lv_goto (tgt := 4) hx hb dX0_seated_26 (by decide) ?_
        exact ih v_o_asked v_o_waiting v_o_fee v_o_takings d_o_places x1 (x2 + (1 : Int32)) ls _ hP (lv_sub hl [1, 2, 0] rfl) hf
      · have hf := pf_f hc hf
        refine lv_iinc (v := (x1 + (1 : Int32))) (lv' := [(1, .int (x1 + (1 : Int32))), (0, .ref a_o), (2, .int x2)]) hx hb dX0_seated_20 hl (k := 1) rfl rfl (by decide) rfl (fun ls hl => ?_)
        refine lv_iinc (v := (x2 + (1 : Int32))) (lv' := [(2, .int (x2 + (1 : Int32))), (1, .int (x1 + (1 : Int32))), (0, .ref a_o)]) hx hb dX0_seated_23 hl (k := 2) rfl rfl (by decide) rfl (fun ls hl => ?_)
        refine lv_goto (tgt := 4) hx hb dX0_seated_26 (by decide) ?_
        exact ih v_o_asked v_o_waiting v_o_fee v_o_takings d_o_places (x1 + (1 : Int32)) (x2 + (1 : Int32)) ls _ hP (lv_sub hl [2, 1, 0] rfl) hf
def fX0_seated (v_o_asked : Int32) (d_o_places : (Nat → Int32)) : Option (Int32) := fX0_seated_4 FU v_o_asked d_o_places (0 : Int32) (1 : Int32)
set_option maxRecDepth 100000 in
set_option maxHeartbeats 4000000 in
theorem kX0_seated (l : Launch) (D : va_G) (cI cJ cZ cB : ClassId) (a_o : Nat) (a_o_prices : Nat) (a_o_free : Nat) (a_o_sizes : Nat) (a_o_limits : Nat) (a_o_places : Nat) (a_o_paid : Nat) (a_o_queue : Nat) (v_o_asked : Int32) (v_o_waiting : Int32) (v_o_fee : Int32) (v_o_takings : Int32) (d_o_places : (Nat → Int32)) (res : Int32) (hf : fX0_seated v_o_asked d_o_places = some res) : Ro l yX0_seated wsX0_seated ({ frames := 3, cells := 0, slots := 0, locals := 63 } : Room) D (tyL cI cJ cZ cB) [.ref a_o] (WX0_seated cI cJ cZ cB a_o a_o_prices a_o_free a_o_sizes a_o_limits a_o_places a_o_paid a_o_queue v_o_asked v_o_waiting v_o_fee v_o_takings d_o_places) (some (.int res)) := by
  refine Ro.of (cc := cX0_seated) (maxL := 3) (ret := (some .int)) (own := RX0) (by decide) rfl rfl (Nat.le_of_ble_eq_true rfl) ?_
  intro p e s m below meth c ls C hK hP hl
  obtain ⟨hx, hb, hr, hml, hts, hown, hlk⟩ := id C
  have hl : lv_has ls 3 [(0, .ref a_o)] := hl
  unfold fX0_seated at hf
  refine lv_iconst (v := (0 : Int32)) hx hb dX0_seated_0 (by decide) ?_
  refine lv_istore_n (lv' := [(1, .int (0 : Int32)), (0, .ref a_o)]) hx hb dX0_seated_1 rfl hl (by decide) rfl (fun ls hl => ?_)
  refine lv_iconst (v := (1 : Int32)) hx hb dX0_seated_2 (by decide) ?_
  refine lv_istore_n (lv' := [(2, .int (1 : Int32)), (1, .int (0 : Int32)), (0, .ref a_o)]) hx hb dX0_seated_3 rfl hl (by decide) rfl (fun ls hl => ?_)
  exact tX0_seated_4 C hK  FU v_o_asked v_o_waiting v_o_fee v_o_takings d_o_places (0 : Int32) (1 : Int32) ls _ hP (lv_sub hl [2, 1, 0] rfl) hf
abbrev WX0_seatedAt (cI cJ cZ cB : ClassId) (a_o : Nat) (a_o_prices : Nat) (a_o_free : Nat) (a_o_sizes : Nat) (a_o_limits : Nat) (a_o_places : Nat) (a_o_paid : Nat) (a_o_queue : Nat) (v_o_asked : Int32) (v_o_waiting : Int32) (v_o_fee : Int32) (v_o_takings : Int32) (d_o_places : (Nat → Int32)) : va_W := [(a_o, .inr (0, [.ref a_o_prices, .ref a_o_free, .ref a_o_sizes, .ref a_o_limits, .ref a_o_places, .ref a_o_paid, .ref a_o_queue, .int v_o_asked, .int v_o_waiting, .int v_o_fee, .int v_o_takings])), (a_o_places, .inl (cI, (31, .inl d_o_places)))]
set_option maxRecDepth 20000 in
theorem iX0_seatedAt_X0 : ∀ w ∈ wsX00, w ∈ wsX0_seatedAt := by decide +kernel
def fX0_seatedAt_4 : Nat → Int32 → (Nat → Int32) → Int32 → Int32 → Int32 → Option (Int32)
  | 0, _, _, _, _, _ => none
  | n + 1, v_o_asked, d_o_places, x1, x2, x3 => (if v_o_asked < x3 then some (-9 : Int32) else ((fX0_isSeated v_o_asked d_o_places x3).bind fun q1 => (if q1 = 0 then fX0_seatedAt_4 n v_o_asked d_o_places x1 x2 (x3 + (1 : Int32)) else (if x2 = x1 then some x3 else fX0_seatedAt_4 n v_o_asked d_o_places x1 (x2 + (1 : Int32)) (x3 + (1 : Int32))))))
set_option maxRecDepth 100000 in
set_option maxHeartbeats 4000000 in
theorem tX0_seatedAt_4 {p : Program} {l : Launch} {e : Env} {s : State} {m : MethodId} {args : Array Value} {below : List Frame} {meth : Method} {c : Code} {D : va_G} {cI cJ cZ cB : ClassId} {a_o : Nat} {a_o_prices : Nat} {a_o_free : Nat} {a_o_sizes : Nat} {a_o_limits : Nat} {a_o_places : Nat} {a_o_paid : Nat} {a_o_queue : Nat} (C : Cx p s m args meth c cX0_seatedAt 4 (some .int) wsX0_seatedAt RX0) (hK : Kw D (tyL cI cJ cZ cB) s) : ∀ (n : Nat), ∀ (v_o_asked : Int32) (v_o_waiting : Int32) (v_o_fee : Int32) (v_o_takings : Int32) (d_o_places : (Nat → Int32)) (x1 : Int32) (x2 : Int32) (x3 : Int32) (ls : Array Slot) (res : Int32), va_P D vwCl (WX0_seatedAt cI cJ cZ cB a_o a_o_prices a_o_free a_o_sizes a_o_limits a_o_places a_o_paid a_o_queue v_o_asked v_o_waiting v_o_fee v_o_takings d_o_places) s.heap → lv_has ls 4 [(0, .ref a_o), (1, .int x1), (2, .int x2), (3, .int x3)] → fX0_seatedAt_4 n v_o_asked d_o_places x1 x2 x3 = some res → W p l e ({ frames := 3, cells := 0, slots := 0, locals := 63 } : Room) s m args below meth c s.heap [] 0 0 (MQ below (QRo (some (.int res))) args s 0 0 (fun _ => False)) (F0 m 4 ls []) := by
  obtain ⟨hx, hb, hr, hml, hts, hown, hlk⟩ := id C
  intro n
  induction n with
  | zero =>
    intro v_o_asked v_o_waiting v_o_fee v_o_takings d_o_places x1 x2 x3 ls res hP hl hf
    rw [fX0_seatedAt_4] at hf
    cases hf
  | succ n ih =>
    intro v_o_asked v_o_waiting v_o_fee v_o_takings d_o_places x1 x2 x3 ls res hP hl hf
    rw [fX0_seatedAt_4] at hf
    refine lv_iload_n hx hb dX0_seatedAt_4 rfl (lv_at hl 3 rfl) ?_
    refine lv_aload_n hx hb dX0_seatedAt_5 rfl (lv_at hl 0 rfl) ?_
    refine va_get (D := D) (ci := 0) (v := .int v_o_asked) (C := RX0) (T := TX0) (N := 11) hx hb hts iX0_seatedAt_X0 hown hK.1 hP 0 rfl rfl 7 (by decide) (hts (.fieldLink RX0 46 "LoneSeats$Bookings" "asked" "I") (by decide +kernel)) (fun _ h9 => h9) rfl dX0_seatedAt_6 ?_
    refine lv_icmp_gt (tgt := 36) hx hb dX0_seatedAt_9 (by decide) (fun hc => ?_) (fun hc => ?_)
    · have hf := pf_t hc hf
      refine lv_bipush (v := (-9 : Int32)) hx hb dX0_seatedAt_36 (by decide) ?_
      cases hf
      exact W.iret hx hb hr (fun t ht hW => ⟨rfl, ht⟩) (fun _ h => absurd h List.not_mem_nil) dX0_seatedAt_38
    · have hf := pf_f hc hf
      refine lv_aload_n hx hb dX0_seatedAt_12 rfl (lv_at hl 0 rfl) ?_
      refine lv_iload_n hx hb dX0_seatedAt_13 rfl (lv_at hl 3 rfl) ?_
      obtain ⟨q1, hq2, hf⟩ := pf_b hf
      have hPc := hP.sub (ws' := (WX0_isSeated cI cJ cZ cB a_o a_o_prices a_o_free a_o_sizes a_o_limits a_o_places a_o_paid a_o_queue v_o_asked v_o_waiting v_o_fee v_o_takings d_o_places)) [0, 1] rfl
      refine cl_roi (va_runV (As := [.int x3]) (rest := []) ⟨hx, hb, hml, hown, hts⟩ (kX0_isSeated l D cI cJ cZ cB a_o a_o_prices a_o_free a_o_sizes a_o_limits a_o_places a_o_paid a_o_queue v_o_asked v_o_waiting v_o_fee v_o_takings d_o_places x3 q1 hq2) (cwV 1 hts gX0_seatedAt_X0_isSeated rfl rfl rfl (by decide +kernel) ⟨Nat.le_of_ble_eq_true rfl, Nat.le_of_ble_eq_true rfl⟩) ⟨PRo.blind, va_recv hK.1 hPc (ci := 0) (q0 := 0) rfl rfl, PRo.at hK hPc⟩ rfl rfl hl.1 rfl (lv_room (Nat.le_of_ble_eq_true rfl)) dX0_seatedAt_14 ⟨Nat.zero_le _, Nat.zero_le _⟩) ?_
      refine lv_if_eq (tgt := 30) hx hb dX0_seatedAt_17 (by decide) (fun hc => ?_) (fun hc => ?_)
      · have hf := pf_t hc hf
        refine lv_iinc (v := (x3 + (1 : Int32))) (lv' := [(3, .int (x3 + (1 : Int32))), (0, .ref a_o), (1, .int x1), (2, .int x2)]) hx hb dX0_seatedAt_30 hl (k := 3) rfl rfl (by decide) rfl (fun ls hl => ?_)
        refine lv_goto (tgt := 4) hx hb dX0_seatedAt_33 (by decide) ?_
        exact ih v_o_asked v_o_waiting v_o_fee v_o_takings d_o_places x1 x2 (x3 + (1 : Int32)) ls _ hP (lv_sub hl [1, 2, 3, 0] rfl) hf
      · have hf := pf_f hc hf
        refine lv_iload_n hx hb dX0_seatedAt_20 rfl (lv_at hl 2 rfl) ?_
        refine lv_iload_n hx hb dX0_seatedAt_21 rfl (lv_at hl 1 rfl) ?_
        refine lv_icmp_ne (tgt := 27) hx hb dX0_seatedAt_22 (by decide) (fun hc => ?_) (fun hc => ?_)
        · have hf := pf_f hc hf
          refine lv_iinc (v := (x2 + (1 : Int32))) (lv' := [(2, .int (x2 + (1 : Int32))), (0, .ref a_o), (1, .int x1), (3, .int x3)]) hx hb dX0_seatedAt_27 hl (k := 2) rfl rfl (by decide) rfl (fun ls hl => ?_)
          refine lv_iinc (v := (x3 + (1 : Int32))) (lv' := [(3, .int (x3 + (1 : Int32))), (2, .int (x2 + (1 : Int32))), (0, .ref a_o), (1, .int x1)]) hx hb dX0_seatedAt_30 hl (k := 3) rfl rfl (by decide) rfl (fun ls hl => ?_)
          refine lv_goto (tgt := 4) hx hb dX0_seatedAt_33 (by decide) ?_
          exact ih v_o_asked v_o_waiting v_o_fee v_o_takings d_o_places x1 (x2 + (1 : Int32)) (x3 + (1 : Int32)) ls _ hP (lv_sub hl [2, 3, 1, 0] rfl) hf
        · have hf := pf_t hc hf
          refine lv_iload_n hx hb dX0_seatedAt_25 rfl (lv_at hl 3 rfl) ?_
          cases hf
          exact W.iret hx hb hr (fun t ht hW => ⟨rfl, ht⟩) (fun _ h => absurd h List.not_mem_nil) dX0_seatedAt_26
def fX0_seatedAt (v_o_asked : Int32) (d_o_places : (Nat → Int32)) (x1 : Int32) : Option (Int32) := fX0_seatedAt_4 FU v_o_asked d_o_places x1 (0 : Int32) (1 : Int32)
set_option maxRecDepth 100000 in
set_option maxHeartbeats 4000000 in
theorem kX0_seatedAt (l : Launch) (D : va_G) (cI cJ cZ cB : ClassId) (a_o : Nat) (a_o_prices : Nat) (a_o_free : Nat) (a_o_sizes : Nat) (a_o_limits : Nat) (a_o_places : Nat) (a_o_paid : Nat) (a_o_queue : Nat) (v_o_asked : Int32) (v_o_waiting : Int32) (v_o_fee : Int32) (v_o_takings : Int32) (d_o_places : (Nat → Int32)) (x1 : Int32) (res : Int32) (hf : fX0_seatedAt v_o_asked d_o_places x1 = some res) : Ro l yX0_seatedAt wsX0_seatedAt ({ frames := 3, cells := 0, slots := 0, locals := 63 } : Room) D (tyL cI cJ cZ cB) [.ref a_o, .int x1] (WX0_seatedAt cI cJ cZ cB a_o a_o_prices a_o_free a_o_sizes a_o_limits a_o_places a_o_paid a_o_queue v_o_asked v_o_waiting v_o_fee v_o_takings d_o_places) (some (.int res)) := by
  refine Ro.of (cc := cX0_seatedAt) (maxL := 4) (ret := (some .int)) (own := RX0) (by decide) rfl rfl (Nat.le_of_ble_eq_true rfl) ?_
  intro p e s m below meth c ls C hK hP hl
  obtain ⟨hx, hb, hr, hml, hts, hown, hlk⟩ := id C
  have hl : lv_has ls 4 [(0, .ref a_o), (1, .int x1)] := hl
  unfold fX0_seatedAt at hf
  refine lv_iconst (v := (0 : Int32)) hx hb dX0_seatedAt_0 (by decide) ?_
  refine lv_istore_n (lv' := [(2, .int (0 : Int32)), (0, .ref a_o), (1, .int x1)]) hx hb dX0_seatedAt_1 rfl hl (by decide) rfl (fun ls hl => ?_)
  refine lv_iconst (v := (1 : Int32)) hx hb dX0_seatedAt_2 (by decide) ?_
  refine lv_istore_n (lv' := [(3, .int (1 : Int32)), (2, .int (0 : Int32)), (0, .ref a_o), (1, .int x1)]) hx hb dX0_seatedAt_3 rfl hl (by decide) rfl (fun ls hl => ?_)
  exact tX0_seatedAt_4 C hK  FU v_o_asked v_o_waiting v_o_fee v_o_takings d_o_places x1 (0 : Int32) (1 : Int32) ls _ hP (lv_sub hl [2, 3, 1, 0] rfl) hf
def fX8_placeAt (x0 : Int32) (x1 : Int32) : Option (Int32) := some (((10 : Int32) * x0) + x1)
set_option maxRecDepth 100000 in
set_option maxHeartbeats 4000000 in
theorem kX8_placeAt (l : Launch) (D : va_G) (cI cJ cZ cB : ClassId) (x0 : Int32) (x1 : Int32) (res : Int32) (hf : fX8_placeAt x0 x1 = some res) : Ro l yX8_placeAt wsX8_placeAt ({ frames := 0, cells := 0, slots := 0, locals := 0 } : Room) D (tyL cI cJ cZ cB) [.int x0, .int x1] ([] : va_W) (some (.int res)) := by
  refine Ro.of (cc := cX8_placeAt) (maxL := 2) (ret := (some .int)) (own := RX8) (by decide) rfl rfl (Nat.le_of_ble_eq_true rfl) ?_
  intro p e s m below meth c ls C hK hP hl
  obtain ⟨hx, hb, hr, hml, hts, hown, hlk⟩ := id C
  have hl : lv_has ls 2 [(0, .int x0), (1, .int x1)] := hl
  unfold fX8_placeAt at hf
  refine lv_bipush (v := (10 : Int32)) hx hb dX8_placeAt_0 (by decide) ?_
  refine lv_iload_n hx hb dX8_placeAt_2 rfl (lv_at hl 0 rfl) ?_
  refine lv_imul hx hb dX8_placeAt_3 ?_
  refine lv_iload_n hx hb dX8_placeAt_4 rfl (lv_at hl 1 rfl) ?_
  refine lv_iadd hx hb dX8_placeAt_5 ?_
  cases hf
  exact W.iret hx hb hr (fun t ht hW => ⟨rfl, ht⟩) (fun _ h => absurd h List.not_mem_nil) dX8_placeAt_6
abbrev WX0_takerOf (cI cJ cZ cB : ClassId) (a_o : Nat) (a_o_prices : Nat) (a_o_free : Nat) (a_o_sizes : Nat) (a_o_limits : Nat) (a_o_places : Nat) (a_o_paid : Nat) (a_o_queue : Nat) (v_o_asked : Int32) (v_o_waiting : Int32) (v_o_fee : Int32) (v_o_takings : Int32) (d_o_sizes : (Nat → Int32)) (d_o_places : (Nat → Int32)) : va_W := [(a_o, .inr (0, [.ref a_o_prices, .ref a_o_free, .ref a_o_sizes, .ref a_o_limits, .ref a_o_places, .ref a_o_paid, .ref a_o_queue, .int v_o_asked, .int v_o_waiting, .int v_o_fee, .int v_o_takings])), (a_o_sizes, .inl (cI, (31, .inl d_o_sizes))), (a_o_places, .inl (cI, (31, .inl d_o_places)))]
set_option maxRecDepth 20000 in
theorem iX0_takerOf_X0 : ∀ w ∈ wsX00, w ∈ wsX0_takerOf := by decide +kernel
def fX0_takerOf_2 : Nat → Int32 → (Nat → Int32) → (Nat → Int32) → Int32 → Int32 → Int32 → Option (Int32)
  | 0, _, _, _, _, _, _ => none
  | n + 1, v_o_asked, d_o_sizes, d_o_places, x1, x2, x3 => (if v_o_asked < x3 then some (0 : Int32) else ((fX8_placeAt x1 x2).bind fun q1 => ((fX0_placeOf v_o_asked d_o_places x3).bind fun q3 => ((fX0_isSeated v_o_asked d_o_places x3).bind fun q5 => (if q5 = 0 then fX0_takerOf_2 n v_o_asked d_o_sizes d_o_places x1 x2 (x3 + (1 : Int32)) else (if (q1 - q3) < 0 then fX0_takerOf_2 n v_o_asked d_o_sizes d_o_places x1 x2 (x3 + (1 : Int32)) else ((fX0_sizeOf v_o_asked d_o_sizes x3).bind fun q7 => (if q7 ≤ (q1 - q3) then fX0_takerOf_2 n v_o_asked d_o_sizes d_o_places x1 x2 (x3 + (1 : Int32)) else some x3))))))))
set_option maxRecDepth 100000 in
set_option maxHeartbeats 4000000 in
theorem tX0_takerOf_2 {p : Program} {l : Launch} {e : Env} {s : State} {m : MethodId} {args : Array Value} {below : List Frame} {meth : Method} {c : Code} {D : va_G} {cI cJ cZ cB : ClassId} {a_o : Nat} {a_o_prices : Nat} {a_o_free : Nat} {a_o_sizes : Nat} {a_o_limits : Nat} {a_o_places : Nat} {a_o_paid : Nat} {a_o_queue : Nat} (C : Cx p s m args meth c cX0_takerOf 5 (some .int) wsX0_takerOf RX0) (hK : Kw D (tyL cI cJ cZ cB) s) : ∀ (n : Nat), ∀ (v_o_asked : Int32) (v_o_waiting : Int32) (v_o_fee : Int32) (v_o_takings : Int32) (d_o_sizes : (Nat → Int32)) (d_o_places : (Nat → Int32)) (x1 : Int32) (x2 : Int32) (x3 : Int32) (ls : Array Slot) (res : Int32), va_P D vwCl (WX0_takerOf cI cJ cZ cB a_o a_o_prices a_o_free a_o_sizes a_o_limits a_o_places a_o_paid a_o_queue v_o_asked v_o_waiting v_o_fee v_o_takings d_o_sizes d_o_places) s.heap → lv_has ls 5 [(0, .ref a_o), (1, .int x1), (2, .int x2), (3, .int x3)] → fX0_takerOf_2 n v_o_asked d_o_sizes d_o_places x1 x2 x3 = some res → W p l e ({ frames := 3, cells := 0, slots := 0, locals := 63 } : Room) s m args below meth c s.heap [] 0 0 (MQ below (QRo (some (.int res))) args s 0 0 (fun _ => False)) (F0 m 2 ls []) := by
  obtain ⟨hx, hb, hr, hml, hts, hown, hlk⟩ := id C
  intro n
  induction n with
  | zero =>
    intro v_o_asked v_o_waiting v_o_fee v_o_takings d_o_sizes d_o_places x1 x2 x3 ls res hP hl hf
    rw [fX0_takerOf_2] at hf
    cases hf
  | succ n ih =>
    intro v_o_asked v_o_waiting v_o_fee v_o_takings d_o_sizes d_o_places x1 x2 x3 ls res hP hl hf
    rw [fX0_takerOf_2] at hf
    refine lv_iload_n hx hb dX0_takerOf_2 rfl (lv_at hl 3 rfl) ?_
    refine lv_aload_n hx hb dX0_takerOf_3 rfl (lv_at hl 0 rfl) ?_
    refine va_get (D := D) (ci := 0) (v := .int v_o_asked) (C := RX0) (T := TX0) (N := 11) hx hb hts iX0_takerOf_X0 hown hK.1 hP 0 rfl rfl 7 (by decide) (hts (.fieldLink RX0 46 "LoneSeats$Bookings" "asked" "I") (by decide +kernel)) (fun _ h9 => h9) rfl dX0_takerOf_4 ?_
    refine lv_icmp_gt (tgt := 54) hx hb dX0_takerOf_7 (by decide) (fun hc => ?_) (fun hc => ?_)
    · have hf := pf_t hc hf
      refine lv_iconst (v := (0 : Int32)) hx hb dX0_takerOf_54 (by decide) ?_
      cases hf
      exact W.iret hx hb hr (fun t ht hW => ⟨rfl, ht⟩) (fun _ h => absurd h List.not_mem_nil) dX0_takerOf_55
    · have hf := pf_f hc hf
      refine lv_iload_n hx hb dX0_takerOf_10 rfl (lv_at hl 1 rfl) ?_
      refine lv_iload_n hx hb dX0_takerOf_11 rfl (lv_at hl 2 rfl) ?_
      obtain ⟨q1, hq2, hf⟩ := pf_b hf
      have hPc := hP.sub (ws' := ([] : va_W)) [] rfl
      refine cl_roi (va_runSN (As := [.int x1, .int x2]) (rest := []) ⟨hx, hb, hml, hown, hts⟩ (kX8_placeAt l D cI cJ cZ cB x1 x2 q1 hq2) ⟨va_cnB 2 hts gX0_takerOf_X8_placeAt_n92 rfl rfl rfl (hK.2.at 9 rfl) (hts (.initialized RX8) (by decide +kernel)) (by decide +kernel) ⟨Nat.le_of_ble_eq_true rfl, Nat.le_of_ble_eq_true rfl⟩, hts (.static yX8_placeAt) (by decide +kernel), trivial⟩ ⟨PRo.blind, PRo.at hK hPc⟩ rfl rfl hl.1 rfl (lv_room (Nat.le_of_ble_eq_true rfl)) dX0_takerOf_12 ⟨Nat.zero_le _, Nat.zero_le _⟩) ?_
      refine lv_aload_n hx hb dX0_takerOf_15 rfl (lv_at hl 0 rfl) ?_
      refine lv_iload_n hx hb dX0_takerOf_16 rfl (lv_at hl 3 rfl) ?_
      obtain ⟨q3, hq4, hf⟩ := pf_b hf
      have hPc := hP.sub (ws' := (WX0_placeOf cI cJ cZ cB a_o a_o_prices a_o_free a_o_sizes a_o_limits a_o_places a_o_paid a_o_queue v_o_asked v_o_waiting v_o_fee v_o_takings d_o_places)) [0, 2] rfl
      refine cl_roi (va_runV (As := [.int x3]) (rest := [.int q1]) ⟨hx, hb, hml, hown, hts⟩ (kX0_placeOf l D cI cJ cZ cB a_o a_o_prices a_o_free a_o_sizes a_o_limits a_o_places a_o_paid a_o_queue v_o_asked v_o_waiting v_o_fee v_o_takings d_o_places x3 q3 hq4) (cwV 1 hts gX0_takerOf_X0_placeOf rfl rfl rfl (by decide +kernel) ⟨Nat.le_of_ble_eq_true rfl, Nat.le_of_ble_eq_true rfl⟩) ⟨PRo.blind, va_recv hK.1 hPc (ci := 0) (q0 := 0) rfl rfl, PRo.at hK hPc⟩ rfl rfl hl.1 rfl (lv_room (Nat.le_of_ble_eq_true rfl)) dX0_takerOf_17 ⟨Nat.zero_le _, Nat.zero_le _⟩) ?_
      refine lv_isub hx hb dX0_takerOf_20 ?_
      refine lv_istore (lv' := [(4, .int (q1 - q3)), (0, .ref a_o), (1, .int x1), (2, .int x2), (3, .int x3)]) hx hb dX0_takerOf_21 hl (by decide) rfl (fun ls hl => ?_)
      refine lv_aload_n hx hb dX0_takerOf_23 rfl (lv_at hl 1 rfl) ?_
      refine lv_iload_n hx hb dX0_takerOf_24 rfl (lv_at hl 4 rfl) ?_
      obtain ⟨q5, hq6, hf⟩ := pf_b hf
      have hPc := hP.sub (ws' := (WX0_isSeated cI cJ cZ cB a_o a_o_prices a_o_free a_o_sizes a_o_limits a_o_places a_o_paid a_o_queue v_o_asked v_o_waiting v_o_fee v_o_takings d_o_places)) [0, 2] rfl
      refine cl_roi (va_runV (As := [.int x3]) (rest := []) ⟨hx, hb, hml, hown, hts⟩ (kX0_isSeated l D cI cJ cZ cB a_o a_o_prices a_o_free a_o_sizes a_o_limits a_o_places a_o_paid a_o_queue v_o_asked v_o_waiting v_o_fee v_o_takings d_o_places x3 q5 hq6) (cwV 1 hts gX0_takerOf_X0_isSeated rfl rfl rfl (by decide +kernel) ⟨Nat.le_of_ble_eq_true rfl, Nat.le_of_ble_eq_true rfl⟩) ⟨PRo.blind, va_recv hK.1 hPc (ci := 0) (q0 := 0) rfl rfl, PRo.at hK hPc⟩ rfl rfl hl.1 rfl (lv_room (Nat.le_of_ble_eq_true rfl)) dX0_takerOf_25 ⟨Nat.zero_le _, Nat.zero_le _⟩) ?_
      refine lv_if_eq (tgt := 48) hx hb dX0_takerOf_28 (by decide) (fun hc => ?_) (fun hc => ?_)
      · have hf := pf_t hc hf
        refine lv_iinc (v := (x3 + (1 : Int32))) (lv' := [(3, .int (x3 + (1 : Int32))), (4, .int (q1 - q3)), (0, .ref a_o), (1, .int x1), (2, .int x2)]) hx hb dX0_takerOf_48 hl (k := 4) rfl rfl (by decide) rfl (fun ls hl => ?_)
        refine lv_goto (tgt := 2) hx hb dX0_takerOf_51 (by decide) ?_
        exact ih v_o_asked v_o_waiting v_o_fee v_o_takings d_o_sizes d_o_places x1 x2 (x3 + (1 : Int32)) ls _ hP (lv_sub hl [2, 3, 4, 0] rfl) hf
      · have hf := pf_f hc hf
        refine lv_iload hx hb dX0_takerOf_31 (lv_at hl 0 rfl) ?_
        refine lv_if_lt (tgt := 48) hx hb dX0_takerOf_33 (by decide) (fun hc => ?_) (fun hc => ?_)
        · have hf := pf_t hc hf
          refine lv_iinc (v := (x3 + (1 : Int32))) (lv' := [(3, .int (x3 + (1 : Int32))), (4, .int (q1 - q3)), (0, .ref a_o), (1, .int x1), (2, .int x2)]) hx hb dX0_takerOf_48 hl (k := 4) rfl rfl (by decide) rfl (fun ls hl => ?_)
          refine lv_goto (tgt := 2) hx hb dX0_takerOf_51 (by decide) ?_
          exact ih v_o_asked v_o_waiting v_o_fee v_o_takings d_o_sizes d_o_places x1 x2 (x3 + (1 : Int32)) ls _ hP (lv_sub hl [2, 3, 4, 0] rfl) hf
        · have hf := pf_f hc hf
          refine lv_iload hx hb dX0_takerOf_36 (lv_at hl 0 rfl) ?_
          refine lv_aload_n hx hb dX0_takerOf_38 rfl (lv_at hl 1 rfl) ?_
          refine lv_iload_n hx hb dX0_takerOf_39 rfl (lv_at hl 4 rfl) ?_
          obtain ⟨q7, hq8, hf⟩ := pf_b hf
          have hPc := hP.sub (ws' := (WX0_sizeOf cI cJ cZ cB a_o a_o_prices a_o_free a_o_sizes a_o_limits a_o_places a_o_paid a_o_queue v_o_asked v_o_waiting v_o_fee v_o_takings d_o_sizes)) [0, 1] rfl
          refine cl_roi (va_runV (As := [.int x3]) (rest := [.int (q1 - q3)]) ⟨hx, hb, hml, hown, hts⟩ (kX0_sizeOf l D cI cJ cZ cB a_o a_o_prices a_o_free a_o_sizes a_o_limits a_o_places a_o_paid a_o_queue v_o_asked v_o_waiting v_o_fee v_o_takings d_o_sizes x3 q7 hq8) (cwV 1 hts gX0_takerOf_X0_sizeOf rfl rfl rfl (by decide +kernel) ⟨Nat.le_of_ble_eq_true rfl, Nat.le_of_ble_eq_true rfl⟩) ⟨PRo.blind, va_recv hK.1 hPc (ci := 0) (q0 := 0) rfl rfl, PRo.at hK hPc⟩ rfl rfl hl.1 rfl (lv_room (Nat.le_of_ble_eq_true rfl)) dX0_takerOf_40 ⟨Nat.zero_le _, Nat.zero_le _⟩) ?_
          refine lv_icmp_ge (tgt := 48) hx hb dX0_takerOf_43 (by decide) (fun hc => ?_) (fun hc => ?_)
          · have hf := pf_t hc hf
            refine lv_iinc (v := (x3 + (1 : Int32))) (lv' := [(3, .int (x3 + (1 : Int32))), (4, .int (q1 - q3)), (0, .ref a_o), (1, .int x1), (2, .int x2)]) hx hb dX0_takerOf_48 hl (k := 4) rfl rfl (by decide) rfl (fun ls hl => ?_)
            refine lv_goto (tgt := 2) hx hb dX0_takerOf_51 (by decide) ?_
            exact ih v_o_asked v_o_waiting v_o_fee v_o_takings d_o_sizes d_o_places x1 x2 (x3 + (1 : Int32)) ls _ hP (lv_sub hl [2, 3, 4, 0] rfl) hf
          · have hf := pf_f hc hf
            refine lv_iload_n hx hb dX0_takerOf_46 rfl (lv_at hl 4 rfl) ?_
            cases hf
            exact W.iret hx hb hr (fun t ht hW => ⟨rfl, ht⟩) (fun _ h => absurd h List.not_mem_nil) dX0_takerOf_47
def fX0_takerOf (v_o_asked : Int32) (d_o_sizes : (Nat → Int32)) (d_o_places : (Nat → Int32)) (x1 : Int32) (x2 : Int32) : Option (Int32) := fX0_takerOf_2 FU v_o_asked d_o_sizes d_o_places x1 x2 (1 : Int32)
set_option maxRecDepth 100000 in
set_option maxHeartbeats 4000000 in
theorem kX0_takerOf (l : Launch) (D : va_G) (cI cJ cZ cB : ClassId) (a_o : Nat) (a_o_prices : Nat) (a_o_free : Nat) (a_o_sizes : Nat) (a_o_limits : Nat) (a_o_places : Nat) (a_o_paid : Nat) (a_o_queue : Nat) (v_o_asked : Int32) (v_o_waiting : Int32) (v_o_fee : Int32) (v_o_takings : Int32) (d_o_sizes : (Nat → Int32)) (d_o_places : (Nat → Int32)) (x1 : Int32) (x2 : Int32) (res : Int32) (hf : fX0_takerOf v_o_asked d_o_sizes d_o_places x1 x2 = some res) : Ro l yX0_takerOf wsX0_takerOf ({ frames := 3, cells := 0, slots := 0, locals := 63 } : Room) D (tyL cI cJ cZ cB) [.ref a_o, .int x1, .int x2] (WX0_takerOf cI cJ cZ cB a_o a_o_prices a_o_free a_o_sizes a_o_limits a_o_places a_o_paid a_o_queue v_o_asked v_o_waiting v_o_fee v_o_takings d_o_sizes d_o_places) (some (.int res)) := by
  refine Ro.of (cc := cX0_takerOf) (maxL := 5) (ret := (some .int)) (own := RX0) (by decide) rfl rfl (Nat.le_of_ble_eq_true rfl) ?_
  intro p e s m below meth c ls C hK hP hl
  obtain ⟨hx, hb, hr, hml, hts, hown, hlk⟩ := id C
  have hl : lv_has ls 5 [(0, .ref a_o), (1, .int x1), (2, .int x2)] := hl
  unfold fX0_takerOf at hf
  refine lv_iconst (v := (1 : Int32)) hx hb dX0_takerOf_0 (by decide) ?_
  refine lv_istore_n (lv' := [(3, .int (1 : Int32)), (0, .ref a_o), (1, .int x1), (2, .int x2)]) hx hb dX0_takerOf_1 rfl hl (by decide) rfl (fun ls hl => ?_)
  exact tX0_takerOf_2 C hK  FU v_o_asked v_o_waiting v_o_fee v_o_takings d_o_sizes d_o_places x1 x2 (1 : Int32) ls _ hP (lv_sub hl [1, 2, 3, 0] rfl) hf
abbrev WX0_waitingAt (cI cJ cZ cB : ClassId) (a_o : Nat) (a_o_prices : Nat) (a_o_free : Nat) (a_o_sizes : Nat) (a_o_limits : Nat) (a_o_places : Nat) (a_o_paid : Nat) (a_o_queue : Nat) (v_o_asked : Int32) (v_o_waiting : Int32) (v_o_fee : Int32) (v_o_takings : Int32) (d_o_queue : (Nat → Int32)) : va_W := [(a_o, .inr (0, [.ref a_o_prices, .ref a_o_free, .ref a_o_sizes, .ref a_o_limits, .ref a_o_places, .ref a_o_paid, .ref a_o_queue, .int v_o_asked, .int v_o_waiting, .int v_o_fee, .int v_o_takings])), (a_o_queue, .inl (cI, (5, .inl d_o_queue)))]
set_option maxRecDepth 20000 in
theorem iX0_waitingAt_X0 : ∀ w ∈ wsX00, w ∈ wsX0_waitingAt := by decide +kernel
def fX0_waitingAt (v_o_waiting : Int32) (d_o_queue : (Nat → Int32)) (x1 : Int32) : Option (Int32) := (if x1 < 0 then some (-9 : Int32) else (if v_o_waiting ≤ x1 then some (-9 : Int32) else (if x1 < 0 ∨ 5 ≤ (x1).toNatClampNeg then none else some (d_o_queue (x1).toNatClampNeg))))
set_option maxRecDepth 100000 in
set_option maxHeartbeats 4000000 in
theorem kX0_waitingAt (l : Launch) (D : va_G) (cI cJ cZ cB : ClassId) (a_o : Nat) (a_o_prices : Nat) (a_o_free : Nat) (a_o_sizes : Nat) (a_o_limits : Nat) (a_o_places : Nat) (a_o_paid : Nat) (a_o_queue : Nat) (v_o_asked : Int32) (v_o_waiting : Int32) (v_o_fee : Int32) (v_o_takings : Int32) (d_o_queue : (Nat → Int32)) (x1 : Int32) (res : Int32) (hf : fX0_waitingAt v_o_waiting d_o_queue x1 = some res) : Ro l yX0_waitingAt wsX0_waitingAt ({ frames := 0, cells := 0, slots := 0, locals := 0 } : Room) D (tyL cI cJ cZ cB) [.ref a_o, .int x1] (WX0_waitingAt cI cJ cZ cB a_o a_o_prices a_o_free a_o_sizes a_o_limits a_o_places a_o_paid a_o_queue v_o_asked v_o_waiting v_o_fee v_o_takings d_o_queue) (some (.int res)) := by
  refine Ro.of (cc := cX0_waitingAt) (maxL := 2) (ret := (some .int)) (own := RX0) (by decide) rfl rfl (Nat.le_of_ble_eq_true rfl) ?_
  intro p e s m below meth c ls C hK hP hl
  obtain ⟨hx, hb, hr, hml, hts, hown, hlk⟩ := id C
  have hl : lv_has ls 2 [(0, .ref a_o), (1, .int x1)] := hl
  unfold fX0_waitingAt at hf
  refine lv_iload_n hx hb dX0_waitingAt_0 rfl (lv_at hl 1 rfl) ?_
  refine lv_if_lt (tgt := 21) hx hb dX0_waitingAt_1 (by decide) (fun hc => ?_) (fun hc => ?_)
  · have hf := pf_t hc hf
    refine lv_bipush (v := (-9 : Int32)) hx hb dX0_waitingAt_21 (by decide) ?_
    cases hf
    exact W.iret hx hb hr (fun t ht hW => ⟨rfl, ht⟩) (fun _ h => absurd h List.not_mem_nil) dX0_waitingAt_23
  · have hf := pf_f hc hf
    refine lv_iload_n hx hb dX0_waitingAt_4 rfl (lv_at hl 1 rfl) ?_
    refine lv_aload_n hx hb dX0_waitingAt_5 rfl (lv_at hl 0 rfl) ?_
    refine va_get (D := D) (ci := 0) (v := .int v_o_waiting) (C := RX0) (T := TX0) (N := 11) hx hb hts iX0_waitingAt_X0 hown hK.1 hP 0 rfl rfl 8 (by decide) (hts (.fieldLink RX0 50 "LoneSeats$Bookings" "waiting" "I") (by decide +kernel)) (fun _ h9 => h9) rfl dX0_waitingAt_6 ?_
    refine lv_icmp_ge (tgt := 21) hx hb dX0_waitingAt_9 (by decide) (fun hc => ?_) (fun hc => ?_)
    · have hf := pf_t hc hf
      refine lv_bipush (v := (-9 : Int32)) hx hb dX0_waitingAt_21 (by decide) ?_
      cases hf
      exact W.iret hx hb hr (fun t ht hW => ⟨rfl, ht⟩) (fun _ h => absurd h List.not_mem_nil) dX0_waitingAt_23
    · have hf := pf_f hc hf
      refine lv_aload_n hx hb dX0_waitingAt_12 rfl (lv_at hl 0 rfl) ?_
      refine va_get (D := D) (ci := 0) (v := .ref a_o_queue) (C := RX0) (T := TX0) (N := 11) hx hb hts iX0_waitingAt_X0 hown hK.1 hP 0 rfl rfl 6 (by decide) (hts (.fieldLink RX0 30 "LoneSeats$Bookings" "queue" "[I") (by decide +kernel)) (fun _ h9 => h9) rfl dX0_waitingAt_13 ?_
      refine lv_iload_n hx hb dX0_waitingAt_16 rfl (lv_at hl 1 rfl) ?_
      obtain ⟨hg1, hf⟩ := pf_x hf
      refine va_iald hx hb hK.1 hP 1 0 rfl rfl hg1 dX0_waitingAt_17 ?_
      refine lv_goto (tgt := 23) hx hb dX0_waitingAt_18 (by decide) ?_
      cases hf
      exact W.iret hx hb hr (fun t ht hW => ⟨rfl, ht⟩) (fun _ h => absurd h List.not_mem_nil) dX0_waitingAt_23
abbrev WX0_isFullFor (cI cJ cZ cB : ClassId) (a_o : Nat) (a_o_prices : Nat) (a_o_free : Nat) (a_o_sizes : Nat) (a_o_limits : Nat) (a_o_places : Nat) (a_o_paid : Nat) (a_o_queue : Nat) (v_o_asked : Int32) (v_o_waiting : Int32) (v_o_fee : Int32) (v_o_takings : Int32) : va_W := [(a_o, .inr (0, [.ref a_o_prices, .ref a_o_free, .ref a_o_sizes, .ref a_o_limits, .ref a_o_places, .ref a_o_paid, .ref a_o_queue, .int v_o_asked, .int v_o_waiting, .int v_o_fee, .int v_o_takings]))]
set_option maxRecDepth 20000 in
theorem iX0_isFullFor_X0 : ∀ w ∈ wsX00, w ∈ wsX0_isFullFor := by decide +kernel
def fX0_isFullFor (v_o_asked : Int32) (v_o_waiting : Int32) (x1 : Int32) : Option (Int32) := (if (30 : Int32) ≤ v_o_asked then some (1 : Int32) else (if x1 = (-9 : Int32) then (if v_o_waiting < (5 : Int32) then some (0 : Int32) else some (1 : Int32)) else some (0 : Int32)))
set_option maxRecDepth 100000 in
set_option maxHeartbeats 4000000 in
theorem kX0_isFullFor (l : Launch) (D : va_G) (cI cJ cZ cB : ClassId) (a_o : Nat) (a_o_prices : Nat) (a_o_free : Nat) (a_o_sizes : Nat) (a_o_limits : Nat) (a_o_places : Nat) (a_o_paid : Nat) (a_o_queue : Nat) (v_o_asked : Int32) (v_o_waiting : Int32) (v_o_fee : Int32) (v_o_takings : Int32) (x1 : Int32) (res : Int32) (hf : fX0_isFullFor v_o_asked v_o_waiting x1 = some res) : Ro l yX0_isFullFor wsX0_isFullFor ({ frames := 0, cells := 0, slots := 0, locals := 0 } : Room) D (tyL cI cJ cZ cB) [.ref a_o, .int x1] (WX0_isFullFor cI cJ cZ cB a_o a_o_prices a_o_free a_o_sizes a_o_limits a_o_places a_o_paid a_o_queue v_o_asked v_o_waiting v_o_fee v_o_takings) (some (.int res)) := by
  refine Ro.of (cc := cX0_isFullFor) (maxL := 2) (ret := (some .boolean)) (own := RX0) (by decide) rfl rfl (Nat.le_of_ble_eq_true rfl) ?_
  intro p e s m below meth c ls C hK hP hl
  obtain ⟨hx, hb, hr, hml, hts, hown, hlk⟩ := id C
  have hl : lv_has ls 2 [(0, .ref a_o), (1, .int x1)] := hl
  unfold fX0_isFullFor at hf
  refine lv_aload_n hx hb dX0_isFullFor_0 rfl (lv_at hl 0 rfl) ?_
  refine va_get (D := D) (ci := 0) (v := .int v_o_asked) (C := RX0) (T := TX0) (N := 11) hx hb hts iX0_isFullFor_X0 hown hK.1 hP 0 rfl rfl 7 (by decide) (hts (.fieldLink RX0 46 "LoneSeats$Bookings" "asked" "I") (by decide +kernel)) (fun _ h9 => h9) rfl dX0_isFullFor_1 ?_
  refine lv_bipush (v := (30 : Int32)) hx hb dX0_isFullFor_4 (by decide) ?_
  refine lv_icmp_ge (tgt := 23) hx hb dX0_isFullFor_6 (by decide) (fun hc => ?_) (fun hc => ?_)
  · have hf := pf_t hc hf
    refine lv_iconst (v := (1 : Int32)) hx hb dX0_isFullFor_23 (by decide) ?_
    refine lv_goto (tgt := 28) hx hb dX0_isFullFor_24 (by decide) ?_
    cases hf
    exact W.zret hx hb hr (nar_b (by decide)) (fun t ht hW => ⟨rfl, ht⟩) (fun _ h => absurd h List.not_mem_nil) dX0_isFullFor_28
  · have hf := pf_f hc hf
    refine lv_iload_n hx hb dX0_isFullFor_9 rfl (lv_at hl 1 rfl) ?_
    refine lv_bipush (v := (-9 : Int32)) hx hb dX0_isFullFor_10 (by decide) ?_
    refine lv_icmp_ne (tgt := 27) hx hb dX0_isFullFor_12 (by decide) (fun hc => ?_) (fun hc => ?_)
    · have hf := pf_f hc hf
      refine lv_iconst (v := (0 : Int32)) hx hb dX0_isFullFor_27 (by decide) ?_
      cases hf
      exact W.zret hx hb hr (nar_b (by decide)) (fun t ht hW => ⟨rfl, ht⟩) (fun _ h => absurd h List.not_mem_nil) dX0_isFullFor_28
    · have hf := pf_t hc hf
      refine lv_aload_n hx hb dX0_isFullFor_15 rfl (lv_at hl 0 rfl) ?_
      refine va_get (D := D) (ci := 0) (v := .int v_o_waiting) (C := RX0) (T := TX0) (N := 11) hx hb hts iX0_isFullFor_X0 hown hK.1 hP 0 rfl rfl 8 (by decide) (hts (.fieldLink RX0 50 "LoneSeats$Bookings" "waiting" "I") (by decide +kernel)) (fun _ h9 => h9) rfl dX0_isFullFor_16 ?_
      refine lv_iconst (v := (5 : Int32)) hx hb dX0_isFullFor_19 (by decide) ?_
      refine lv_icmp_lt (tgt := 27) hx hb dX0_isFullFor_20 (by decide) (fun hc => ?_) (fun hc => ?_)
      · have hf := pf_t hc hf
        refine lv_iconst (v := (0 : Int32)) hx hb dX0_isFullFor_27 (by decide) ?_
        cases hf
        exact W.zret hx hb hr (nar_b (by decide)) (fun t ht hW => ⟨rfl, ht⟩) (fun _ h => absurd h List.not_mem_nil) dX0_isFullFor_28
      · have hf := pf_f hc hf
        refine lv_iconst (v := (1 : Int32)) hx hb dX0_isFullFor_23 (by decide) ?_
        refine lv_goto (tgt := 28) hx hb dX0_isFullFor_24 (by decide) ?_
        cases hf
        exact W.zret hx hb hr (nar_b (by decide)) (fun t ht hW => ⟨rfl, ht⟩) (fun _ h => absurd h List.not_mem_nil) dX0_isFullFor_28
abbrev WX0_settle (cI cJ cZ cB : ClassId) (a_o : Nat) (a_o_prices : Nat) (a_o_free : Nat) (a_o_sizes : Nat) (a_o_limits : Nat) (a_o_places : Nat) (a_o_paid : Nat) (a_o_queue : Nat) (v_o_asked : Int32) (v_o_waiting : Int32) (v_o_fee : Int32) (v_o_takings : Int32) (d_o_prices : (Nat → Int32)) (d_o_free : (Nat → Int32)) (d_o_sizes : (Nat → Int32)) (d_o_places : (Nat → Int32)) (d_o_paid : (Nat → Int32)) : va_W := [(a_o, .inr (0, [.ref a_o_prices, .ref a_o_free, .ref a_o_sizes, .ref a_o_limits, .ref a_o_places, .ref a_o_paid, .ref a_o_queue, .int v_o_asked, .int v_o_waiting, .int v_o_fee, .int v_o_takings])), (a_o_prices, .inl (cI, (4, .inl d_o_prices))), (a_o_free, .inl (cI, (4, .inl d_o_free))), (a_o_sizes, .inl (cI, (31, .inl d_o_sizes))), (a_o_places, .inl (cI, (31, .inl d_o_places))), (a_o_paid, .inl (cI, (31, .inl d_o_paid)))]
set_option maxRecDepth 20000 in
theorem iX0_settle_X0 : ∀ w ∈ wsX00, w ∈ wsX0_settle := by decide +kernel
def fX0_settle (v_o_asked : Int32) (v_o_takings : Int32) (d_o_prices : (Nat → Int32)) (d_o_free : (Nat → Int32)) (d_o_sizes : (Nat → Int32)) (d_o_places : (Nat → Int32)) (d_o_paid : (Nat → Int32)) (x1 : Int32) (x2 : Int32) : Option (Int32 × (Nat → Int32) × (Nat → Int32) × (Nat → Int32)) := ((fX0_knows v_o_asked x1).bind fun q1 => (if q1 = 0 then some (v_o_takings, d_o_free, d_o_places, d_o_paid) else (if x1 < 0 ∨ 31 ≤ (x1).toNatClampNeg then none else (if x1 < 0 ∨ 31 ≤ (x1).toNatClampNeg then none else ((fX8_rowOf x2).bind fun q5 => ((fX0_priceOf d_o_prices q5).bind fun q7 => (if x1 < 0 ∨ 31 ≤ (x1).toNatClampNeg then none else (if x1 < 0 ∨ 31 ≤ (x1).toNatClampNeg then none else (if x1 < 0 ∨ 31 ≤ (x1).toNatClampNeg then none else ((fX0_take d_o_free x2 (d_o_sizes (x1).toNatClampNeg)).bind fun q12 => some ((v_o_takings + ((upd d_o_paid ((x1).toNatClampNeg) ((d_o_sizes (x1).toNatClampNeg) * q7)) (x1).toNatClampNeg)), q12, (upd d_o_places ((x1).toNatClampNeg) x2), (upd d_o_paid ((x1).toNatClampNeg) ((d_o_sizes (x1).toNatClampNeg) * q7)))))))))))))
set_option maxRecDepth 100000 in
set_option maxHeartbeats 4000000 in
theorem kX0_settle (l : Launch) (D : va_G) (cI cJ cZ cB : ClassId) (a_o : Nat) (a_o_prices : Nat) (a_o_free : Nat) (a_o_sizes : Nat) (a_o_limits : Nat) (a_o_places : Nat) (a_o_paid : Nat) (a_o_queue : Nat) (v_o_asked : Int32) (v_o_waiting : Int32) (v_o_fee : Int32) (v_o_takings : Int32) (d_o_prices : (Nat → Int32)) (d_o_free : (Nat → Int32)) (d_o_sizes : (Nat → Int32)) (d_o_places : (Nat → Int32)) (d_o_paid : (Nat → Int32)) (x1 : Int32) (x2 : Int32) (res : Int32 × (Nat → Int32) × (Nat → Int32) × (Nat → Int32)) (hf : fX0_settle v_o_asked v_o_takings d_o_prices d_o_free d_o_sizes d_o_places d_o_paid x1 x2 = some res) : Rw l yX0_settle wsX0_settle ({ frames := 2, cells := 0, slots := 0, locals := 44 } : Room) D (tyL cI cJ cZ cB) [.ref a_o, .int x1, .int x2] (WX0_settle cI cJ cZ cB a_o a_o_prices a_o_free a_o_sizes a_o_limits a_o_places a_o_paid a_o_queue v_o_asked v_o_waiting v_o_fee v_o_takings d_o_prices d_o_free d_o_sizes d_o_places d_o_paid) none (WX0_settle cI cJ cZ cB a_o a_o_prices a_o_free a_o_sizes a_o_limits a_o_places a_o_paid a_o_queue v_o_asked v_o_waiting v_o_fee res.1 d_o_prices res.2.1 d_o_sizes res.2.2.1 res.2.2.2) := by
  refine Rw.of (cc := cX0_settle) (maxL := 3) (ret := none) (own := RX0) (by decide) rfl rfl (Nat.le_of_ble_eq_true rfl) ?_
  intro p e s m below meth c A ls C hK hA hP hD hS hl
  obtain ⟨hx, hb, hr, hml, hts, hown, hlk⟩ := id C
  have hl : lv_has ls 3 [(0, .ref a_o), (1, .int x1), (2, .int x2)] := hl
  unfold fX0_settle at hf
  refine lv_aload_n hx hb dX0_settle_0 rfl (lv_at hl 0 rfl) ?_
  refine lv_iload_n hx hb dX0_settle_1 rfl (lv_at hl 1 rfl) ?_
  obtain ⟨q1, hq2, hf⟩ := pf_b hf
  have hPc := hP.sub (ws' := (WX0_knows cI cJ cZ cB a_o a_o_prices a_o_free a_o_sizes a_o_limits a_o_places a_o_paid a_o_queue v_o_asked v_o_waiting v_o_fee v_o_takings)) [0] rfl
  refine cl_roi (va_runV (As := [.int x1]) (rest := []) ⟨hx, hb, hml, hown, hts⟩ (kX0_knows l D cI cJ cZ cB a_o a_o_prices a_o_free a_o_sizes a_o_limits a_o_places a_o_paid a_o_queue v_o_asked v_o_waiting v_o_fee v_o_takings x1 q1 hq2) (cwV 1 hts gX0_settle_X0_knows rfl rfl rfl (by decide +kernel) ⟨Nat.le_of_ble_eq_true rfl, Nat.le_of_ble_eq_true rfl⟩) ⟨PRo.blind, va_recv hK.1 hPc (ci := 0) (q0 := 0) rfl rfl, PRo.at hK hPc⟩ rfl rfl hl.1 rfl (lv_room (Nat.le_of_ble_eq_true rfl)) dX0_settle_2 ⟨Nat.zero_le _, Nat.zero_le _⟩) ?_
  refine lv_if_ne (tgt := 9) hx hb dX0_settle_5 (by decide) (fun hc => ?_) (fun hc => ?_)
  · have hf := pf_f hc hf
    refine lv_aload_n hx hb dX0_settle_9 rfl (lv_at hl 0 rfl) ?_
    refine va_get (D := D) (ci := 0) (v := .ref a_o_places) (C := RX0) (T := TX0) (N := 11) hx hb hts iX0_settle_X0 hown hK.1 hP 0 rfl rfl 4 (by decide) (hts (.fieldLink RX0 24 "LoneSeats$Bookings" "places" "[I") (by decide +kernel)) (fun _ h9 => h9) rfl dX0_settle_10 ?_
    refine lv_iload_n hx hb dX0_settle_13 rfl (lv_at hl 1 rfl) ?_
    refine lv_iload_n hx hb dX0_settle_14 rfl (lv_at hl 2 rfl) ?_
    obtain ⟨hg3, hf⟩ := pf_x hf
    refine va_iast hx hb hK.1 hP hD hS 4 0 rfl rfl hg3 dX0_settle_15 (fun H locs hP hD hS => ?_)
    have hP : va_P D vwCl (WX0_settle cI cJ cZ cB a_o a_o_prices a_o_free a_o_sizes a_o_limits a_o_places a_o_paid a_o_queue v_o_asked v_o_waiting v_o_fee v_o_takings d_o_prices d_o_free d_o_sizes (upd d_o_places ((x1).toNatClampNeg) x2) d_o_paid) H := hP
    have hD : va_D A (WX0_settle cI cJ cZ cB a_o a_o_prices a_o_free a_o_sizes a_o_limits a_o_places a_o_paid a_o_queue v_o_asked v_o_waiting v_o_fee v_o_takings d_o_prices d_o_free d_o_sizes (upd d_o_places ((x1).toNatClampNeg) x2) d_o_paid) := hD
    refine lv_aload_n hx hb dX0_settle_16 rfl (lv_at hl 0 rfl) ?_
    refine va_get (D := D) (ci := 0) (v := .ref a_o_paid) (C := RX0) (T := TX0) (N := 11) hx hb hts iX0_settle_X0 hown hK.1 hP 0 rfl rfl 5 (by decide) (hts (.fieldLink RX0 27 "LoneSeats$Bookings" "paid" "[I") (by decide +kernel)) (fun _ h9 => h9) rfl dX0_settle_17 ?_
    refine lv_iload_n hx hb dX0_settle_20 rfl (lv_at hl 1 rfl) ?_
    refine lv_aload_n hx hb dX0_settle_21 rfl (lv_at hl 0 rfl) ?_
    refine va_get (D := D) (ci := 0) (v := .ref a_o_sizes) (C := RX0) (T := TX0) (N := 11) hx hb hts iX0_settle_X0 hown hK.1 hP 0 rfl rfl 2 (by decide) (hts (.fieldLink RX0 18 "LoneSeats$Bookings" "sizes" "[I") (by decide +kernel)) (fun _ h9 => h9) rfl dX0_settle_22 ?_
    refine lv_iload_n hx hb dX0_settle_25 rfl (lv_at hl 1 rfl) ?_
    obtain ⟨hg4, hf⟩ := pf_x hf
    refine va_iald hx hb hK.1 hP 3 0 rfl rfl hg4 dX0_settle_26 ?_
    refine lv_aload_n hx hb dX0_settle_27 rfl (lv_at hl 0 rfl) ?_
    refine lv_iload_n hx hb dX0_settle_28 rfl (lv_at hl 2 rfl) ?_
    obtain ⟨q5, hq6, hf⟩ := pf_b hf
    have hPc := hP.sub (ws' := ([] : va_W)) [] rfl
    refine cl_roi (va_runSN (As := [.int x2]) (rest := [.ref a_o, .int (d_o_sizes (x1).toNatClampNeg), .int x1, .ref a_o_paid]) ⟨hx, hb, hml, hown, hts⟩ (kX8_rowOf l D cI cJ cZ cB x2 q5 hq6) ⟨va_cnB 1 hts gX0_settle_X8_rowOf_n74 rfl rfl rfl (hK.2.at 15 rfl) (hts (.initialized RX8) (by decide +kernel)) (by decide +kernel) ⟨Nat.le_of_ble_eq_true rfl, Nat.le_of_ble_eq_true rfl⟩, hts (.static yX8_rowOf) (by decide +kernel), trivial⟩ ⟨PRo.blind, PRo.at hK hPc⟩ rfl rfl hl.1 rfl (lv_room (Nat.le_of_ble_eq_true rfl)) dX0_settle_29 ⟨Nat.zero_le _, Nat.zero_le _⟩) ?_
    obtain ⟨q7, hq8, hf⟩ := pf_b hf
    have hPc := hP.sub (ws' := (WX0_priceOf cI cJ cZ cB a_o a_o_prices a_o_free a_o_sizes a_o_limits a_o_places a_o_paid a_o_queue v_o_asked v_o_waiting v_o_fee v_o_takings d_o_prices)) [0, 1] rfl
    refine cl_roi (va_runV (As := [.int q5]) (rest := [.int (d_o_sizes (x1).toNatClampNeg), .int x1, .ref a_o_paid]) ⟨hx, hb, hml, hown, hts⟩ (kX0_priceOf l D cI cJ cZ cB a_o a_o_prices a_o_free a_o_sizes a_o_limits a_o_places a_o_paid a_o_queue v_o_asked v_o_waiting v_o_fee v_o_takings d_o_prices q5 q7 hq8) (cwV 1 hts gX0_settle_X0_priceOf rfl rfl rfl (by decide +kernel) ⟨Nat.le_of_ble_eq_true rfl, Nat.le_of_ble_eq_true rfl⟩) ⟨PRo.blind, va_recv hK.1 hPc (ci := 0) (q0 := 0) rfl rfl, PRo.at hK hPc⟩ rfl rfl hl.1 rfl (lv_room (Nat.le_of_ble_eq_true rfl)) dX0_settle_32 ⟨Nat.zero_le _, Nat.zero_le _⟩) ?_
    refine lv_imul hx hb dX0_settle_35 ?_
    obtain ⟨hg9, hf⟩ := pf_x hf
    refine va_iast hx hb hK.1 hP hD hS 5 0 rfl rfl hg9 dX0_settle_36 (fun H locs hP hD hS => ?_)
    have hP : va_P D vwCl (WX0_settle cI cJ cZ cB a_o a_o_prices a_o_free a_o_sizes a_o_limits a_o_places a_o_paid a_o_queue v_o_asked v_o_waiting v_o_fee v_o_takings d_o_prices d_o_free d_o_sizes (upd d_o_places ((x1).toNatClampNeg) x2) (upd d_o_paid ((x1).toNatClampNeg) ((d_o_sizes (x1).toNatClampNeg) * q7))) H := hP
    have hD : va_D A (WX0_settle cI cJ cZ cB a_o a_o_prices a_o_free a_o_sizes a_o_limits a_o_places a_o_paid a_o_queue v_o_asked v_o_waiting v_o_fee v_o_takings d_o_prices d_o_free d_o_sizes (upd d_o_places ((x1).toNatClampNeg) x2) (upd d_o_paid ((x1).toNatClampNeg) ((d_o_sizes (x1).toNatClampNeg) * q7))) := hD
    refine lv_aload_n hx hb dX0_settle_37 rfl (lv_at hl 0 rfl) ?_
    refine lv_dup hx hb dX0_settle_38 rfl ?_
    refine va_get (D := D) (ci := 0) (v := .int v_o_takings) (C := RX0) (T := TX0) (N := 11) hx hb hts iX0_settle_X0 hown hK.1 hP 0 rfl rfl 10 (by decide) (hts (.fieldLink RX0 56 "LoneSeats$Bookings" "takings" "I") (by decide +kernel)) (fun _ h9 => h9) rfl dX0_settle_39 ?_
    refine lv_aload_n hx hb dX0_settle_42 rfl (lv_at hl 0 rfl) ?_
    refine va_get (D := D) (ci := 0) (v := .ref a_o_paid) (C := RX0) (T := TX0) (N := 11) hx hb hts iX0_settle_X0 hown hK.1 hP 0 rfl rfl 5 (by decide) (hts (.fieldLink RX0 27 "LoneSeats$Bookings" "paid" "[I") (by decide +kernel)) (fun _ h9 => h9) rfl dX0_settle_43 ?_
    refine lv_iload_n hx hb dX0_settle_46 rfl (lv_at hl 1 rfl) ?_
    obtain ⟨hg10, hf⟩ := pf_x hf
    refine va_iald hx hb hK.1 hP 5 0 rfl rfl hg10 dX0_settle_47 ?_
    refine lv_iadd hx hb dX0_settle_48 ?_
    refine va_put (D := D) (ci := 0) (v := .int (v_o_takings + ((upd d_o_paid ((x1).toNatClampNeg) ((d_o_sizes (x1).toNatClampNeg) * q7)) (x1).toNatClampNeg))) (ty := .int) (C := RX0) (T := TX0) (N := 11) hx hb hts iX0_settle_X0 tyX0 tyX0_ok nmX0 hown hK.1 hP hD hS 0 rfl rfl 10 (by decide) (hts (.fieldLink RX0 56 "LoneSeats$Bookings" "takings" "I") (by decide +kernel)) (fun _ h9 => h9) rfl (by decide +kernel) rfl rfl (Nat.le_of_ble_eq_true rfl) dX0_settle_49 (fun H locs hP hD hS => ?_)
    have hP : va_P D vwCl (WX0_settle cI cJ cZ cB a_o a_o_prices a_o_free a_o_sizes a_o_limits a_o_places a_o_paid a_o_queue v_o_asked v_o_waiting v_o_fee (v_o_takings + ((upd d_o_paid ((x1).toNatClampNeg) ((d_o_sizes (x1).toNatClampNeg) * q7)) (x1).toNatClampNeg)) d_o_prices d_o_free d_o_sizes (upd d_o_places ((x1).toNatClampNeg) x2) (upd d_o_paid ((x1).toNatClampNeg) ((d_o_sizes (x1).toNatClampNeg) * q7))) H := hP
    have hD : va_D A (WX0_settle cI cJ cZ cB a_o a_o_prices a_o_free a_o_sizes a_o_limits a_o_places a_o_paid a_o_queue v_o_asked v_o_waiting v_o_fee (v_o_takings + ((upd d_o_paid ((x1).toNatClampNeg) ((d_o_sizes (x1).toNatClampNeg) * q7)) (x1).toNatClampNeg)) d_o_prices d_o_free d_o_sizes (upd d_o_places ((x1).toNatClampNeg) x2) (upd d_o_paid ((x1).toNatClampNeg) ((d_o_sizes (x1).toNatClampNeg) * q7))) := hD
    refine lv_aload_n hx hb dX0_settle_52 rfl (lv_at hl 0 rfl) ?_
    refine lv_iload_n hx hb dX0_settle_53 rfl (lv_at hl 2 rfl) ?_
    refine lv_aload_n hx hb dX0_settle_54 rfl (lv_at hl 0 rfl) ?_
    refine va_get (D := D) (ci := 0) (v := .ref a_o_sizes) (C := RX0) (T := TX0) (N := 11) hx hb hts iX0_settle_X0 hown hK.1 hP 0 rfl rfl 2 (by decide) (hts (.fieldLink RX0 18 "LoneSeats$Bookings" "sizes" "[I") (by decide +kernel)) (fun _ h9 => h9) rfl dX0_settle_55 ?_
    refine lv_iload_n hx hb dX0_settle_58 rfl (lv_at hl 1 rfl) ?_
    obtain ⟨hg11, hf⟩ := pf_x hf
    refine va_iald hx hb hK.1 hP 3 0 rfl rfl hg11 dX0_settle_59 ?_
    obtain ⟨q12, hq13, hf⟩ := pf_b hf
    have hPc := hP.sub (ws' := (WX0_take cI cJ cZ cB a_o a_o_prices a_o_free a_o_sizes a_o_limits a_o_places a_o_paid a_o_queue v_o_asked v_o_waiting v_o_fee (v_o_takings + ((upd d_o_paid ((x1).toNatClampNeg) ((d_o_sizes (x1).toNatClampNeg) * q7)) (x1).toNatClampNeg)) d_o_free)) [0, 2] rfl
    have hDc := hD.sub (ws' := (WX0_take cI cJ cZ cB a_o a_o_prices a_o_free a_o_sizes a_o_limits a_o_places a_o_paid a_o_queue v_o_asked v_o_waiting v_o_fee (v_o_takings + ((upd d_o_paid ((x1).toNatClampNeg) ((d_o_sizes (x1).toNatClampNeg) * q7)) (x1).toNatClampNeg)) d_o_free)) [0, 2] (by decide) rfl
    refine cl_rwv (wr := [(a_o_prices, .inl (cI, (4, .inl d_o_prices))), (a_o_sizes, .inl (cI, (31, .inl d_o_sizes))), (a_o_places, .inl (cI, (31, .inl (upd d_o_places ((x1).toNatClampNeg) x2)))), (a_o_paid, .inl (cI, (31, .inl (upd d_o_paid ((x1).toNatClampNeg) ((d_o_sizes (x1).toNatClampNeg) * q7)))))]) (wsN := (WX0_settle cI cJ cZ cB a_o a_o_prices a_o_free a_o_sizes a_o_limits a_o_places a_o_paid a_o_queue v_o_asked v_o_waiting v_o_fee (v_o_takings + ((upd d_o_paid ((x1).toNatClampNeg) ((d_o_sizes (x1).toNatClampNeg) * q7)) (x1).toNatClampNeg)) d_o_prices q12 d_o_sizes (upd d_o_places ((x1).toNatClampNeg) x2) (upd d_o_paid ((x1).toNatClampNeg) ((d_o_sizes (x1).toNatClampNeg) * q7)))) (va_runV (As := [.int x2, .int (d_o_sizes (x1).toNatClampNeg)]) (rest := []) ⟨hx, hb, hml, hown, hts⟩ ((kX0_take l D cI cJ cZ cB a_o a_o_prices a_o_free a_o_sizes a_o_limits a_o_places a_o_paid a_o_queue v_o_asked v_o_waiting v_o_fee (v_o_takings + ((upd d_o_paid ((x1).toNatClampNeg) ((d_o_sizes (x1).toNatClampNeg) * q7)) (x1).toNatClampNeg)) d_o_free x2 (d_o_sizes (x1).toNatClampNeg) q12 hq13) _) (cwV 2 hts gX0_settle_X0_take rfl rfl rfl (by decide +kernel) ⟨Nat.le_of_ble_eq_true rfl, Nat.le_of_ble_eq_true rfl⟩) ⟨PRw.blind, va_recv hK.1 hPc (ci := 0) (q0 := 0) rfl rfl, PRw.at hK hPc hDc⟩ rfl rfl hl.1 rfl (lv_room (Nat.le_of_ble_eq_true rfl)) dX0_settle_60 ⟨Nat.zero_le _, Nat.zero_le _⟩) hP hD hS hA [0, 2] [1, 3, 4, 5] [4, 0, 5, 1, 2, 3] rfl rfl (by decide) (by decide) rfl (by decide) (fun H locs hP hD hS => ?_)
    cases hf
    exact W.vret hx hb hr (fun t ht hW => ⟨⟨rfl, by rw [ht]; exact hP, hD⟩, hS.F ht⟩) hS.2.2 dX0_settle_63
  · have hf := pf_t hc hf
    cases hf
    exact W.vret hx hb hr (fun t ht hW => ⟨⟨rfl, by rw [ht]; exact hP, hD⟩, hS.F ht⟩) hS.2.2 dX0_settle_8
abbrev WX0_admit (cI cJ cZ cB : ClassId) (a_o : Nat) (a_o_prices : Nat) (a_o_free : Nat) (a_o_sizes : Nat) (a_o_limits : Nat) (a_o_places : Nat) (a_o_paid : Nat) (a_o_queue : Nat) (v_o_asked : Int32) (v_o_waiting : Int32) (v_o_fee : Int32) (v_o_takings : Int32) (d_o_prices : (Nat → Int32)) (d_o_free : (Nat → Int32)) (d_o_sizes : (Nat → Int32)) (d_o_limits : (Nat → Int32)) (d_o_places : (Nat → Int32)) (d_o_paid : (Nat → Int32)) (d_o_queue : (Nat → Int32)) : va_W := [(a_o, .inr (0, [.ref a_o_prices, .ref a_o_free, .ref a_o_sizes, .ref a_o_limits, .ref a_o_places, .ref a_o_paid, .ref a_o_queue, .int v_o_asked, .int v_o_waiting, .int v_o_fee, .int v_o_takings])), (a_o_prices, .inl (cI, (4, .inl d_o_prices))), (a_o_free, .inl (cI, (4, .inl d_o_free))), (a_o_sizes, .inl (cI, (31, .inl d_o_sizes))), (a_o_limits, .inl (cI, (31, .inl d_o_limits))), (a_o_places, .inl (cI, (31, .inl d_o_places))), (a_o_paid, .inl (cI, (31, .inl d_o_paid))), (a_o_queue, .inl (cI, (5, .inl d_o_queue)))]
set_option maxRecDepth 20000 in
theorem iX0_admit_X0 : ∀ w ∈ wsX00, w ∈ wsX0_admit := by decide +kernel
def fX0_admit (v_o_asked : Int32) (v_o_waiting : Int32) (v_o_takings : Int32) (d_o_prices : (Nat → Int32)) (d_o_free : (Nat → Int32)) (d_o_sizes : (Nat → Int32)) (d_o_limits : (Nat → Int32)) (d_o_places : (Nat → Int32)) (d_o_paid : (Nat → Int32)) (d_o_queue : (Nat → Int32)) (x1 : Int32) (x2 : Int32) (x3 : Int32) : Option (Int32 × Int32 × Int32 × Int32 × (Nat → Int32) × (Nat → Int32) × (Nat → Int32) × (Nat → Int32) × (Nat → Int32) × (Nat → Int32)) := ((fX0_isFullFor v_o_asked v_o_waiting x3).bind fun q1 => (if q1 = 0 then (if (v_o_asked + (1 : Int32)) < 0 ∨ 31 ≤ ((v_o_asked + (1 : Int32))).toNatClampNeg then none else (if (v_o_asked + (1 : Int32)) < 0 ∨ 31 ≤ ((v_o_asked + (1 : Int32))).toNatClampNeg then none else (if (v_o_asked + (1 : Int32)) < 0 ∨ 31 ≤ ((v_o_asked + (1 : Int32))).toNatClampNeg then none else (if (v_o_asked + (1 : Int32)) < 0 ∨ 31 ≤ ((v_o_asked + (1 : Int32))).toNatClampNeg then none else (if x3 = (-9 : Int32) then (if v_o_waiting < 0 ∨ 5 ≤ (v_o_waiting).toNatClampNeg then none else some ((v_o_asked + (1 : Int32)), (v_o_asked + (1 : Int32)), (v_o_waiting + (1 : Int32)), v_o_takings, d_o_free, (upd d_o_sizes (((v_o_asked + (1 : Int32))).toNatClampNeg) x1), (upd d_o_limits (((v_o_asked + (1 : Int32))).toNatClampNeg) x2), (upd d_o_places (((v_o_asked + (1 : Int32))).toNatClampNeg) (-9 : Int32)), (upd d_o_paid (((v_o_asked + (1 : Int32))).toNatClampNeg) (0 : Int32)), (upd d_o_queue ((v_o_waiting).toNatClampNeg) (v_o_asked + (1 : Int32))))) else ((fX0_settle (v_o_asked + (1 : Int32)) v_o_takings d_o_prices d_o_free (upd d_o_sizes (((v_o_asked + (1 : Int32))).toNatClampNeg) x1) (upd d_o_places (((v_o_asked + (1 : Int32))).toNatClampNeg) (-9 : Int32)) (upd d_o_paid (((v_o_asked + (1 : Int32))).toNatClampNeg) (0 : Int32)) (v_o_asked + (1 : Int32)) x3).bind fun q7 => some ((v_o_asked + (1 : Int32)), (v_o_asked + (1 : Int32)), v_o_waiting, q7.1, q7.2.1, (upd d_o_sizes (((v_o_asked + (1 : Int32))).toNatClampNeg) x1), (upd d_o_limits (((v_o_asked + (1 : Int32))).toNatClampNeg) x2), q7.2.2.1, q7.2.2.2, d_o_queue))))))) else some ((-4 : Int32), v_o_asked, v_o_waiting, v_o_takings, d_o_free, d_o_sizes, d_o_limits, d_o_places, d_o_paid, d_o_queue)))
set_option maxRecDepth 100000 in
set_option maxHeartbeats 4000000 in
theorem kX0_admit (l : Launch) (D : va_G) (cI cJ cZ cB : ClassId) (a_o : Nat) (a_o_prices : Nat) (a_o_free : Nat) (a_o_sizes : Nat) (a_o_limits : Nat) (a_o_places : Nat) (a_o_paid : Nat) (a_o_queue : Nat) (v_o_asked : Int32) (v_o_waiting : Int32) (v_o_fee : Int32) (v_o_takings : Int32) (d_o_prices : (Nat → Int32)) (d_o_free : (Nat → Int32)) (d_o_sizes : (Nat → Int32)) (d_o_limits : (Nat → Int32)) (d_o_places : (Nat → Int32)) (d_o_paid : (Nat → Int32)) (d_o_queue : (Nat → Int32)) (x1 : Int32) (x2 : Int32) (x3 : Int32) (res : Int32 × Int32 × Int32 × Int32 × (Nat → Int32) × (Nat → Int32) × (Nat → Int32) × (Nat → Int32) × (Nat → Int32) × (Nat → Int32)) (hf : fX0_admit v_o_asked v_o_waiting v_o_takings d_o_prices d_o_free d_o_sizes d_o_limits d_o_places d_o_paid d_o_queue x1 x2 x3 = some res) : Rw l yX0_admit wsX0_admit ({ frames := 3, cells := 0, slots := 0, locals := 66 } : Room) D (tyL cI cJ cZ cB) [.ref a_o, .int x1, .int x2, .int x3] (WX0_admit cI cJ cZ cB a_o a_o_prices a_o_free a_o_sizes a_o_limits a_o_places a_o_paid a_o_queue v_o_asked v_o_waiting v_o_fee v_o_takings d_o_prices d_o_free d_o_sizes d_o_limits d_o_places d_o_paid d_o_queue) (some (.int res.1)) (WX0_admit cI cJ cZ cB a_o a_o_prices a_o_free a_o_sizes a_o_limits a_o_places a_o_paid a_o_queue res.2.1 res.2.2.1 v_o_fee res.2.2.2.1 d_o_prices res.2.2.2.2.1 res.2.2.2.2.2.1 res.2.2.2.2.2.2.1 res.2.2.2.2.2.2.2.1 res.2.2.2.2.2.2.2.2.1 res.2.2.2.2.2.2.2.2.2) := by
  refine Rw.of (cc := cX0_admit) (maxL := 4) (ret := (some .int)) (own := RX0) (by decide) rfl rfl (Nat.le_of_ble_eq_true rfl) ?_
  intro p e s m below meth c A ls C hK hA hP hD hS hl
  obtain ⟨hx, hb, hr, hml, hts, hown, hlk⟩ := id C
  have hl : lv_has ls 4 [(0, .ref a_o), (1, .int x1), (2, .int x2), (3, .int x3)] := hl
  unfold fX0_admit at hf
  refine lv_aload_n hx hb dX0_admit_0 rfl (lv_at hl 0 rfl) ?_
  refine lv_iload_n hx hb dX0_admit_1 rfl (lv_at hl 3 rfl) ?_
  obtain ⟨q1, hq2, hf⟩ := pf_b hf
  have hPc := hP.sub (ws' := (WX0_isFullFor cI cJ cZ cB a_o a_o_prices a_o_free a_o_sizes a_o_limits a_o_places a_o_paid a_o_queue v_o_asked v_o_waiting v_o_fee v_o_takings)) [0] rfl
  refine cl_roi (va_runV (As := [.int x3]) (rest := []) ⟨hx, hb, hml, hown, hts⟩ (kX0_isFullFor l D cI cJ cZ cB a_o a_o_prices a_o_free a_o_sizes a_o_limits a_o_places a_o_paid a_o_queue v_o_asked v_o_waiting v_o_fee v_o_takings x3 q1 hq2) (cwV 1 hts gX0_admit_X0_isFullFor rfl rfl rfl (by decide +kernel) ⟨Nat.le_of_ble_eq_true rfl, Nat.le_of_ble_eq_true rfl⟩) ⟨PRo.blind, va_recv hK.1 hPc (ci := 0) (q0 := 0) rfl rfl, PRo.at hK hPc⟩ rfl rfl hl.1 rfl (lv_room (Nat.le_of_ble_eq_true rfl)) dX0_admit_2 ⟨Nat.zero_le _, Nat.zero_le _⟩) ?_
  refine lv_if_eq (tgt := 11) hx hb dX0_admit_5 (by decide) (fun hc => ?_) (fun hc => ?_)
  · have hf := pf_t hc hf
    refine lv_aload_n hx hb dX0_admit_11 rfl (lv_at hl 0 rfl) ?_
    refine lv_dup hx hb dX0_admit_12 rfl ?_
    refine va_get (D := D) (ci := 0) (v := .int v_o_asked) (C := RX0) (T := TX0) (N := 11) hx hb hts iX0_admit_X0 hown hK.1 hP 0 rfl rfl 7 (by decide) (hts (.fieldLink RX0 46 "LoneSeats$Bookings" "asked" "I") (by decide +kernel)) (fun _ h9 => h9) rfl dX0_admit_13 ?_
    refine lv_iconst (v := (1 : Int32)) hx hb dX0_admit_16 (by decide) ?_
    refine lv_iadd hx hb dX0_admit_17 ?_
    refine va_put (D := D) (ci := 0) (v := .int (v_o_asked + (1 : Int32))) (ty := .int) (C := RX0) (T := TX0) (N := 11) hx hb hts iX0_admit_X0 tyX0 tyX0_ok nmX0 hown hK.1 hP hD hS 0 rfl rfl 7 (by decide) (hts (.fieldLink RX0 46 "LoneSeats$Bookings" "asked" "I") (by decide +kernel)) (fun _ h9 => h9) rfl (by decide +kernel) rfl rfl (Nat.le_of_ble_eq_true rfl) dX0_admit_18 (fun H locs hP hD hS => ?_)
    have hP : va_P D vwCl (WX0_admit cI cJ cZ cB a_o a_o_prices a_o_free a_o_sizes a_o_limits a_o_places a_o_paid a_o_queue (v_o_asked + (1 : Int32)) v_o_waiting v_o_fee v_o_takings d_o_prices d_o_free d_o_sizes d_o_limits d_o_places d_o_paid d_o_queue) H := hP
    have hD : va_D A (WX0_admit cI cJ cZ cB a_o a_o_prices a_o_free a_o_sizes a_o_limits a_o_places a_o_paid a_o_queue (v_o_asked + (1 : Int32)) v_o_waiting v_o_fee v_o_takings d_o_prices d_o_free d_o_sizes d_o_limits d_o_places d_o_paid d_o_queue) := hD
    refine lv_aload_n hx hb dX0_admit_21 rfl (lv_at hl 0 rfl) ?_
    refine va_get (D := D) (ci := 0) (v := .ref a_o_sizes) (C := RX0) (T := TX0) (N := 11) hx hb hts iX0_admit_X0 hown hK.1 hP 0 rfl rfl 2 (by decide) (hts (.fieldLink RX0 18 "LoneSeats$Bookings" "sizes" "[I") (by decide +kernel)) (fun _ h9 => h9) rfl dX0_admit_22 ?_
    refine lv_aload_n hx hb dX0_admit_25 rfl (lv_at hl 0 rfl) ?_
    refine va_get (D := D) (ci := 0) (v := .int (v_o_asked + (1 : Int32))) (C := RX0) (T := TX0) (N := 11) hx hb hts iX0_admit_X0 hown hK.1 hP 0 rfl rfl 7 (by decide) (hts (.fieldLink RX0 46 "LoneSeats$Bookings" "asked" "I") (by decide +kernel)) (fun _ h9 => h9) rfl dX0_admit_26 ?_
    refine lv_iload_n hx hb dX0_admit_29 rfl (lv_at hl 1 rfl) ?_
    obtain ⟨hg3, hf⟩ := pf_x hf
    refine va_iast hx hb hK.1 hP hD hS 3 0 rfl rfl hg3 dX0_admit_30 (fun H locs hP hD hS => ?_)
    have hP : va_P D vwCl (WX0_admit cI cJ cZ cB a_o a_o_prices a_o_free a_o_sizes a_o_limits a_o_places a_o_paid a_o_queue (v_o_asked + (1 : Int32)) v_o_waiting v_o_fee v_o_takings d_o_prices d_o_free (upd d_o_sizes (((v_o_asked + (1 : Int32))).toNatClampNeg) x1) d_o_limits d_o_places d_o_paid d_o_queue) H := hP
    have hD : va_D A (WX0_admit cI cJ cZ cB a_o a_o_prices a_o_free a_o_sizes a_o_limits a_o_places a_o_paid a_o_queue (v_o_asked + (1 : Int32)) v_o_waiting v_o_fee v_o_takings d_o_prices d_o_free (upd d_o_sizes (((v_o_asked + (1 : Int32))).toNatClampNeg) x1) d_o_limits d_o_places d_o_paid d_o_queue) := hD
    refine lv_aload_n hx hb dX0_admit_31 rfl (lv_at hl 0 rfl) ?_
    refine va_get (D := D) (ci := 0) (v := .ref a_o_limits) (C := RX0) (T := TX0) (N := 11) hx hb hts iX0_admit_X0 hown hK.1 hP 0 rfl rfl 3 (by decide) (hts (.fieldLink RX0 21 "LoneSeats$Bookings" "limits" "[I") (by decide +kernel)) (fun _ h9 => h9) rfl dX0_admit_32 ?_
    refine lv_aload_n hx hb dX0_admit_35 rfl (lv_at hl 0 rfl) ?_
    refine va_get (D := D) (ci := 0) (v := .int (v_o_asked + (1 : Int32))) (C := RX0) (T := TX0) (N := 11) hx hb hts iX0_admit_X0 hown hK.1 hP 0 rfl rfl 7 (by decide) (hts (.fieldLink RX0 46 "LoneSeats$Bookings" "asked" "I") (by decide +kernel)) (fun _ h9 => h9) rfl dX0_admit_36 ?_
    refine lv_iload_n hx hb dX0_admit_39 rfl (lv_at hl 2 rfl) ?_
    obtain ⟨hg4, hf⟩ := pf_x hf
    refine va_iast hx hb hK.1 hP hD hS 4 0 rfl rfl hg4 dX0_admit_40 (fun H locs hP hD hS => ?_)
    have hP : va_P D vwCl (WX0_admit cI cJ cZ cB a_o a_o_prices a_o_free a_o_sizes a_o_limits a_o_places a_o_paid a_o_queue (v_o_asked + (1 : Int32)) v_o_waiting v_o_fee v_o_takings d_o_prices d_o_free (upd d_o_sizes (((v_o_asked + (1 : Int32))).toNatClampNeg) x1) (upd d_o_limits (((v_o_asked + (1 : Int32))).toNatClampNeg) x2) d_o_places d_o_paid d_o_queue) H := hP
    have hD : va_D A (WX0_admit cI cJ cZ cB a_o a_o_prices a_o_free a_o_sizes a_o_limits a_o_places a_o_paid a_o_queue (v_o_asked + (1 : Int32)) v_o_waiting v_o_fee v_o_takings d_o_prices d_o_free (upd d_o_sizes (((v_o_asked + (1 : Int32))).toNatClampNeg) x1) (upd d_o_limits (((v_o_asked + (1 : Int32))).toNatClampNeg) x2) d_o_places d_o_paid d_o_queue) := hD
    refine lv_aload_n hx hb dX0_admit_41 rfl (lv_at hl 0 rfl) ?_
    refine va_get (D := D) (ci := 0) (v := .ref a_o_places) (C := RX0) (T := TX0) (N := 11) hx hb hts iX0_admit_X0 hown hK.1 hP 0 rfl rfl 4 (by decide) (hts (.fieldLink RX0 24 "LoneSeats$Bookings" "places" "[I") (by decide +kernel)) (fun _ h9 => h9) rfl dX0_admit_42 ?_
    refine lv_aload_n hx hb dX0_admit_45 rfl (lv_at hl 0 rfl) ?_
    refine va_get (D := D) (ci := 0) (v := .int (v_o_asked + (1 : Int32))) (C := RX0) (T := TX0) (N := 11) hx hb hts iX0_admit_X0 hown hK.1 hP 0 rfl rfl 7 (by decide) (hts (.fieldLink RX0 46 "LoneSeats$Bookings" "asked" "I") (by decide +kernel)) (fun _ h9 => h9) rfl dX0_admit_46 ?_
    refine lv_bipush (v := (-9 : Int32)) hx hb dX0_admit_49 (by decide) ?_
    obtain ⟨hg5, hf⟩ := pf_x hf
    refine va_iast hx hb hK.1 hP hD hS 5 0 rfl rfl hg5 dX0_admit_51 (fun H locs hP hD hS => ?_)
    have hP : va_P D vwCl (WX0_admit cI cJ cZ cB a_o a_o_prices a_o_free a_o_sizes a_o_limits a_o_places a_o_paid a_o_queue (v_o_asked + (1 : Int32)) v_o_waiting v_o_fee v_o_takings d_o_prices d_o_free (upd d_o_sizes (((v_o_asked + (1 : Int32))).toNatClampNeg) x1) (upd d_o_limits (((v_o_asked + (1 : Int32))).toNatClampNeg) x2) (upd d_o_places (((v_o_asked + (1 : Int32))).toNatClampNeg) (-9 : Int32)) d_o_paid d_o_queue) H := hP
    have hD : va_D A (WX0_admit cI cJ cZ cB a_o a_o_prices a_o_free a_o_sizes a_o_limits a_o_places a_o_paid a_o_queue (v_o_asked + (1 : Int32)) v_o_waiting v_o_fee v_o_takings d_o_prices d_o_free (upd d_o_sizes (((v_o_asked + (1 : Int32))).toNatClampNeg) x1) (upd d_o_limits (((v_o_asked + (1 : Int32))).toNatClampNeg) x2) (upd d_o_places (((v_o_asked + (1 : Int32))).toNatClampNeg) (-9 : Int32)) d_o_paid d_o_queue) := hD
    refine lv_aload_n hx hb dX0_admit_52 rfl (lv_at hl 0 rfl) ?_
    refine va_get (D := D) (ci := 0) (v := .ref a_o_paid) (C := RX0) (T := TX0) (N := 11) hx hb hts iX0_admit_X0 hown hK.1 hP 0 rfl rfl 5 (by decide) (hts (.fieldLink RX0 27 "LoneSeats$Bookings" "paid" "[I") (by decide +kernel)) (fun _ h9 => h9) rfl dX0_admit_53 ?_
    refine lv_aload_n hx hb dX0_admit_56 rfl (lv_at hl 0 rfl) ?_
    refine va_get (D := D) (ci := 0) (v := .int (v_o_asked + (1 : Int32))) (C := RX0) (T := TX0) (N := 11) hx hb hts iX0_admit_X0 hown hK.1 hP 0 rfl rfl 7 (by decide) (hts (.fieldLink RX0 46 "LoneSeats$Bookings" "asked" "I") (by decide +kernel)) (fun _ h9 => h9) rfl dX0_admit_57 ?_
    refine lv_iconst (v := (0 : Int32)) hx hb dX0_admit_60 (by decide) ?_
    obtain ⟨hg6, hf⟩ := pf_x hf
    refine va_iast hx hb hK.1 hP hD hS 6 0 rfl rfl hg6 dX0_admit_61 (fun H locs hP hD hS => ?_)
    have hP : va_P D vwCl (WX0_admit cI cJ cZ cB a_o a_o_prices a_o_free a_o_sizes a_o_limits a_o_places a_o_paid a_o_queue (v_o_asked + (1 : Int32)) v_o_waiting v_o_fee v_o_takings d_o_prices d_o_free (upd d_o_sizes (((v_o_asked + (1 : Int32))).toNatClampNeg) x1) (upd d_o_limits (((v_o_asked + (1 : Int32))).toNatClampNeg) x2) (upd d_o_places (((v_o_asked + (1 : Int32))).toNatClampNeg) (-9 : Int32)) (upd d_o_paid (((v_o_asked + (1 : Int32))).toNatClampNeg) (0 : Int32)) d_o_queue) H := hP
    have hD : va_D A (WX0_admit cI cJ cZ cB a_o a_o_prices a_o_free a_o_sizes a_o_limits a_o_places a_o_paid a_o_queue (v_o_asked + (1 : Int32)) v_o_waiting v_o_fee v_o_takings d_o_prices d_o_free (upd d_o_sizes (((v_o_asked + (1 : Int32))).toNatClampNeg) x1) (upd d_o_limits (((v_o_asked + (1 : Int32))).toNatClampNeg) x2) (upd d_o_places (((v_o_asked + (1 : Int32))).toNatClampNeg) (-9 : Int32)) (upd d_o_paid (((v_o_asked + (1 : Int32))).toNatClampNeg) (0 : Int32)) d_o_queue) := hD
    refine lv_iload_n hx hb dX0_admit_62 rfl (lv_at hl 3 rfl) ?_
    refine lv_bipush (v := (-9 : Int32)) hx hb dX0_admit_63 (by decide) ?_
    refine lv_icmp_ne (tgt := 94) hx hb dX0_admit_65 (by decide) (fun hc => ?_) (fun hc => ?_)
    · have hf := pf_f hc hf
      refine lv_aload_n hx hb dX0_admit_94 rfl (lv_at hl 0 rfl) ?_
      refine lv_aload_n hx hb dX0_admit_95 rfl (lv_at hl 0 rfl) ?_
      refine va_get (D := D) (ci := 0) (v := .int (v_o_asked + (1 : Int32))) (C := RX0) (T := TX0) (N := 11) hx hb hts iX0_admit_X0 hown hK.1 hP 0 rfl rfl 7 (by decide) (hts (.fieldLink RX0 46 "LoneSeats$Bookings" "asked" "I") (by decide +kernel)) (fun _ h9 => h9) rfl dX0_admit_96 ?_
      refine lv_iload_n hx hb dX0_admit_99 rfl (lv_at hl 3 rfl) ?_
      obtain ⟨q7, hq8, hf⟩ := pf_b hf
      have hPc := hP.sub (ws' := (WX0_settle cI cJ cZ cB a_o a_o_prices a_o_free a_o_sizes a_o_limits a_o_places a_o_paid a_o_queue (v_o_asked + (1 : Int32)) v_o_waiting v_o_fee v_o_takings d_o_prices d_o_free (upd d_o_sizes (((v_o_asked + (1 : Int32))).toNatClampNeg) x1) (upd d_o_places (((v_o_asked + (1 : Int32))).toNatClampNeg) (-9 : Int32)) (upd d_o_paid (((v_o_asked + (1 : Int32))).toNatClampNeg) (0 : Int32)))) [0, 1, 2, 3, 5, 6] rfl
      have hDc := hD.sub (ws' := (WX0_settle cI cJ cZ cB a_o a_o_prices a_o_free a_o_sizes a_o_limits a_o_places a_o_paid a_o_queue (v_o_asked + (1 : Int32)) v_o_waiting v_o_fee v_o_takings d_o_prices d_o_free (upd d_o_sizes (((v_o_asked + (1 : Int32))).toNatClampNeg) x1) (upd d_o_places (((v_o_asked + (1 : Int32))).toNatClampNeg) (-9 : Int32)) (upd d_o_paid (((v_o_asked + (1 : Int32))).toNatClampNeg) (0 : Int32)))) [0, 1, 2, 3, 5, 6] (by decide) rfl
      refine cl_rwv (wr := [(a_o_limits, .inl (cI, (31, .inl (upd d_o_limits (((v_o_asked + (1 : Int32))).toNatClampNeg) x2)))), (a_o_queue, .inl (cI, (5, .inl d_o_queue)))]) (wsN := (WX0_admit cI cJ cZ cB a_o a_o_prices a_o_free a_o_sizes a_o_limits a_o_places a_o_paid a_o_queue (v_o_asked + (1 : Int32)) v_o_waiting v_o_fee q7.1 d_o_prices q7.2.1 (upd d_o_sizes (((v_o_asked + (1 : Int32))).toNatClampNeg) x1) (upd d_o_limits (((v_o_asked + (1 : Int32))).toNatClampNeg) x2) q7.2.2.1 q7.2.2.2 d_o_queue)) (va_runV (As := [.int (v_o_asked + (1 : Int32)), .int x3]) (rest := []) ⟨hx, hb, hml, hown, hts⟩ ((kX0_settle l D cI cJ cZ cB a_o a_o_prices a_o_free a_o_sizes a_o_limits a_o_places a_o_paid a_o_queue (v_o_asked + (1 : Int32)) v_o_waiting v_o_fee v_o_takings d_o_prices d_o_free (upd d_o_sizes (((v_o_asked + (1 : Int32))).toNatClampNeg) x1) (upd d_o_places (((v_o_asked + (1 : Int32))).toNatClampNeg) (-9 : Int32)) (upd d_o_paid (((v_o_asked + (1 : Int32))).toNatClampNeg) (0 : Int32)) (v_o_asked + (1 : Int32)) x3 q7 hq8) _) (cwV 2 hts gX0_admit_X0_settle rfl rfl rfl (by decide +kernel) ⟨Nat.le_of_ble_eq_true rfl, Nat.le_of_ble_eq_true rfl⟩) ⟨PRw.blind, va_recv hK.1 hPc (ci := 0) (q0 := 0) rfl rfl, PRw.at hK hPc hDc⟩ rfl rfl hl.1 rfl (lv_room (Nat.le_of_ble_eq_true rfl)) dX0_admit_100 ⟨Nat.zero_le _, Nat.zero_le _⟩) hP hD hS hA [0, 1, 2, 3, 5, 6] [4, 7] [2, 3, 4, 5, 0, 6, 7, 1] rfl rfl (by decide) (by decide) rfl (by decide) (fun H locs hP hD hS => ?_)
      refine lv_aload_n hx hb dX0_admit_103 rfl (lv_at hl 0 rfl) ?_
      refine va_get (D := D) (ci := 0) (v := .int (v_o_asked + (1 : Int32))) (C := RX0) (T := TX0) (N := 11) hx hb hts iX0_admit_X0 hown hK.1 hP 0 rfl rfl 7 (by decide) (hts (.fieldLink RX0 46 "LoneSeats$Bookings" "asked" "I") (by decide +kernel)) (fun _ h9 => h9) rfl dX0_admit_104 ?_
      cases hf
      exact W.iret hx hb hr (fun t ht hW => ⟨⟨rfl, by rw [ht]; exact hP, hD⟩, hS.F ht⟩) hS.2.2 dX0_admit_107
    · have hf := pf_t hc hf
      refine lv_aload_n hx hb dX0_admit_68 rfl (lv_at hl 0 rfl) ?_
      refine va_get (D := D) (ci := 0) (v := .ref a_o_queue) (C := RX0) (T := TX0) (N := 11) hx hb hts iX0_admit_X0 hown hK.1 hP 0 rfl rfl 6 (by decide) (hts (.fieldLink RX0 30 "LoneSeats$Bookings" "queue" "[I") (by decide +kernel)) (fun _ h9 => h9) rfl dX0_admit_69 ?_
      refine lv_aload_n hx hb dX0_admit_72 rfl (lv_at hl 0 rfl) ?_
      refine va_get (D := D) (ci := 0) (v := .int v_o_waiting) (C := RX0) (T := TX0) (N := 11) hx hb hts iX0_admit_X0 hown hK.1 hP 0 rfl rfl 8 (by decide) (hts (.fieldLink RX0 50 "LoneSeats$Bookings" "waiting" "I") (by decide +kernel)) (fun _ h9 => h9) rfl dX0_admit_73 ?_
      refine lv_aload_n hx hb dX0_admit_76 rfl (lv_at hl 0 rfl) ?_
      refine va_get (D := D) (ci := 0) (v := .int (v_o_asked + (1 : Int32))) (C := RX0) (T := TX0) (N := 11) hx hb hts iX0_admit_X0 hown hK.1 hP 0 rfl rfl 7 (by decide) (hts (.fieldLink RX0 46 "LoneSeats$Bookings" "asked" "I") (by decide +kernel)) (fun _ h9 => h9) rfl dX0_admit_77 ?_
      obtain ⟨hg9, hf⟩ := pf_x hf
      refine va_iast hx hb hK.1 hP hD hS 7 0 rfl rfl hg9 dX0_admit_80 (fun H locs hP hD hS => ?_)
      have hP : va_P D vwCl (WX0_admit cI cJ cZ cB a_o a_o_prices a_o_free a_o_sizes a_o_limits a_o_places a_o_paid a_o_queue (v_o_asked + (1 : Int32)) v_o_waiting v_o_fee v_o_takings d_o_prices d_o_free (upd d_o_sizes (((v_o_asked + (1 : Int32))).toNatClampNeg) x1) (upd d_o_limits (((v_o_asked + (1 : Int32))).toNatClampNeg) x2) (upd d_o_places (((v_o_asked + (1 : Int32))).toNatClampNeg) (-9 : Int32)) (upd d_o_paid (((v_o_asked + (1 : Int32))).toNatClampNeg) (0 : Int32)) (upd d_o_queue ((v_o_waiting).toNatClampNeg) (v_o_asked + (1 : Int32)))) H := hP
      have hD : va_D A (WX0_admit cI cJ cZ cB a_o a_o_prices a_o_free a_o_sizes a_o_limits a_o_places a_o_paid a_o_queue (v_o_asked + (1 : Int32)) v_o_waiting v_o_fee v_o_takings d_o_prices d_o_free (upd d_o_sizes (((v_o_asked + (1 : Int32))).toNatClampNeg) x1) (upd d_o_limits (((v_o_asked + (1 : Int32))).toNatClampNeg) x2) (upd d_o_places (((v_o_asked + (1 : Int32))).toNatClampNeg) (-9 : Int32)) (upd d_o_paid (((v_o_asked + (1 : Int32))).toNatClampNeg) (0 : Int32)) (upd d_o_queue ((v_o_waiting).toNatClampNeg) (v_o_asked + (1 : Int32)))) := hD
      refine lv_aload_n hx hb dX0_admit_81 rfl (lv_at hl 0 rfl) ?_
      refine lv_dup hx hb dX0_admit_82 rfl ?_
      refine va_get (D := D) (ci := 0) (v := .int v_o_waiting) (C := RX0) (T := TX0) (N := 11) hx hb hts iX0_admit_X0 hown hK.1 hP 0 rfl rfl 8 (by decide) (hts (.fieldLink RX0 50 "LoneSeats$Bookings" "waiting" "I") (by decide +kernel)) (fun _ h9 => h9) rfl dX0_admit_83 ?_
      refine lv_iconst (v := (1 : Int32)) hx hb dX0_admit_86 (by decide) ?_
      refine lv_iadd hx hb dX0_admit_87 ?_
      refine va_put (D := D) (ci := 0) (v := .int (v_o_waiting + (1 : Int32))) (ty := .int) (C := RX0) (T := TX0) (N := 11) hx hb hts iX0_admit_X0 tyX0 tyX0_ok nmX0 hown hK.1 hP hD hS 0 rfl rfl 8 (by decide) (hts (.fieldLink RX0 50 "LoneSeats$Bookings" "waiting" "I") (by decide +kernel)) (fun _ h9 => h9) rfl (by decide +kernel) rfl rfl (Nat.le_of_ble_eq_true rfl) dX0_admit_88 (fun H locs hP hD hS => ?_)
      have hP : va_P D vwCl (WX0_admit cI cJ cZ cB a_o a_o_prices a_o_free a_o_sizes a_o_limits a_o_places a_o_paid a_o_queue (v_o_asked + (1 : Int32)) (v_o_waiting + (1 : Int32)) v_o_fee v_o_takings d_o_prices d_o_free (upd d_o_sizes (((v_o_asked + (1 : Int32))).toNatClampNeg) x1) (upd d_o_limits (((v_o_asked + (1 : Int32))).toNatClampNeg) x2) (upd d_o_places (((v_o_asked + (1 : Int32))).toNatClampNeg) (-9 : Int32)) (upd d_o_paid (((v_o_asked + (1 : Int32))).toNatClampNeg) (0 : Int32)) (upd d_o_queue ((v_o_waiting).toNatClampNeg) (v_o_asked + (1 : Int32)))) H := hP
      have hD : va_D A (WX0_admit cI cJ cZ cB a_o a_o_prices a_o_free a_o_sizes a_o_limits a_o_places a_o_paid a_o_queue (v_o_asked + (1 : Int32)) (v_o_waiting + (1 : Int32)) v_o_fee v_o_takings d_o_prices d_o_free (upd d_o_sizes (((v_o_asked + (1 : Int32))).toNatClampNeg) x1) (upd d_o_limits (((v_o_asked + (1 : Int32))).toNatClampNeg) x2) (upd d_o_places (((v_o_asked + (1 : Int32))).toNatClampNeg) (-9 : Int32)) (upd d_o_paid (((v_o_asked + (1 : Int32))).toNatClampNeg) (0 : Int32)) (upd d_o_queue ((v_o_waiting).toNatClampNeg) (v_o_asked + (1 : Int32)))) := hD
      refine lv_goto (tgt := 103) hx hb dX0_admit_91 (by decide) ?_
      refine lv_aload_n hx hb dX0_admit_103 rfl (lv_at hl 0 rfl) ?_
      refine va_get (D := D) (ci := 0) (v := .int (v_o_asked + (1 : Int32))) (C := RX0) (T := TX0) (N := 11) hx hb hts iX0_admit_X0 hown hK.1 hP 0 rfl rfl 7 (by decide) (hts (.fieldLink RX0 46 "LoneSeats$Bookings" "asked" "I") (by decide +kernel)) (fun _ h9 => h9) rfl dX0_admit_104 ?_
      cases hf
      exact W.iret hx hb hr (fun t ht hW => ⟨⟨rfl, by rw [ht]; exact hP, hD⟩, hS.F ht⟩) hS.2.2 dX0_admit_107
  · have hf := pf_f hc hf
    refine lv_bipush (v := (-4 : Int32)) hx hb dX0_admit_8 (by decide) ?_
    cases hf
    exact W.iret hx hb hr (fun t ht hW => ⟨⟨rfl, by rw [ht]; exact hP, hD⟩, hS.F ht⟩) hS.2.2 dX0_admit_10
abbrev WX0_release (cI cJ cZ cB : ClassId) (a_o : Nat) (a_o_prices : Nat) (a_o_free : Nat) (a_o_sizes : Nat) (a_o_limits : Nat) (a_o_places : Nat) (a_o_paid : Nat) (a_o_queue : Nat) (v_o_asked : Int32) (v_o_waiting : Int32) (v_o_fee : Int32) (v_o_takings : Int32) (d_o_free : (Nat → Int32)) (d_o_sizes : (Nat → Int32)) (d_o_places : (Nat → Int32)) (d_o_paid : (Nat → Int32)) : va_W := [(a_o, .inr (0, [.ref a_o_prices, .ref a_o_free, .ref a_o_sizes, .ref a_o_limits, .ref a_o_places, .ref a_o_paid, .ref a_o_queue, .int v_o_asked, .int v_o_waiting, .int v_o_fee, .int v_o_takings])), (a_o_free, .inl (cI, (4, .inl d_o_free))), (a_o_sizes, .inl (cI, (31, .inl d_o_sizes))), (a_o_places, .inl (cI, (31, .inl d_o_places))), (a_o_paid, .inl (cI, (31, .inl d_o_paid)))]
set_option maxRecDepth 20000 in
theorem iX0_release_X0 : ∀ w ∈ wsX00, w ∈ wsX0_release := by decide +kernel
def fX0_release (v_o_asked : Int32) (v_o_fee : Int32) (v_o_takings : Int32) (d_o_free : (Nat → Int32)) (d_o_sizes : (Nat → Int32)) (d_o_places : (Nat → Int32)) (d_o_paid : (Nat → Int32)) (x1 : Int32) : Option (Int32 × Int32 × (Nat → Int32) × (Nat → Int32) × (Nat → Int32)) := ((fX0_isSeated v_o_asked d_o_places x1).bind fun q1 => (if q1 = 0 then some ((0 : Int32), v_o_takings, d_o_free, d_o_places, d_o_paid) else (if x1 < 0 ∨ 31 ≤ (x1).toNatClampNeg then none else (if x1 < 0 ∨ 31 ≤ (x1).toNatClampNeg then none else (if x1 < 0 ∨ 31 ≤ (x1).toNatClampNeg then none else (if x1 < 0 ∨ 31 ≤ (x1).toNatClampNeg then none else ((fX0_clear d_o_free (d_o_places (x1).toNatClampNeg) (d_o_sizes (x1).toNatClampNeg)).bind fun q7 => (if x1 < 0 ∨ 31 ≤ (x1).toNatClampNeg then none else (if x1 < 0 ∨ 31 ≤ (x1).toNatClampNeg then none else some ((if (0 : Int32) < ((d_o_paid (x1).toNatClampNeg) - ((d_o_sizes (x1).toNatClampNeg) * v_o_fee)) then ((d_o_paid (x1).toNatClampNeg) - ((d_o_sizes (x1).toNatClampNeg) * v_o_fee)) else (0 : Int32)), (v_o_takings - (if (0 : Int32) < ((d_o_paid (x1).toNatClampNeg) - ((d_o_sizes (x1).toNatClampNeg) * v_o_fee)) then ((d_o_paid (x1).toNatClampNeg) - ((d_o_sizes (x1).toNatClampNeg) * v_o_fee)) else (0 : Int32))), q7, (upd d_o_places ((x1).toNatClampNeg) (-9 : Int32)), (upd d_o_paid ((x1).toNatClampNeg) (0 : Int32))))))))))))
set_option maxRecDepth 100000 in
set_option maxHeartbeats 4000000 in
theorem kX0_release (l : Launch) (D : va_G) (cI cJ cZ cB : ClassId) (a_o : Nat) (a_o_prices : Nat) (a_o_free : Nat) (a_o_sizes : Nat) (a_o_limits : Nat) (a_o_places : Nat) (a_o_paid : Nat) (a_o_queue : Nat) (v_o_asked : Int32) (v_o_waiting : Int32) (v_o_fee : Int32) (v_o_takings : Int32) (d_o_free : (Nat → Int32)) (d_o_sizes : (Nat → Int32)) (d_o_places : (Nat → Int32)) (d_o_paid : (Nat → Int32)) (x1 : Int32) (res : Int32 × Int32 × (Nat → Int32) × (Nat → Int32) × (Nat → Int32)) (hf : fX0_release v_o_asked v_o_fee v_o_takings d_o_free d_o_sizes d_o_places d_o_paid x1 = some res) : Rw l yX0_release wsX0_release ({ frames := 3, cells := 0, slots := 0, locals := 63 } : Room) D (tyL cI cJ cZ cB) [.ref a_o, .int x1] (WX0_release cI cJ cZ cB a_o a_o_prices a_o_free a_o_sizes a_o_limits a_o_places a_o_paid a_o_queue v_o_asked v_o_waiting v_o_fee v_o_takings d_o_free d_o_sizes d_o_places d_o_paid) (some (.int res.1)) (WX0_release cI cJ cZ cB a_o a_o_prices a_o_free a_o_sizes a_o_limits a_o_places a_o_paid a_o_queue v_o_asked v_o_waiting v_o_fee res.2.1 res.2.2.1 d_o_sizes res.2.2.2.1 res.2.2.2.2) := by
  refine Rw.of (cc := cX0_release) (maxL := 3) (ret := (some .int)) (own := RX0) (by decide) rfl rfl (Nat.le_of_ble_eq_true rfl) ?_
  intro p e s m below meth c A ls C hK hA hP hD hS hl
  obtain ⟨hx, hb, hr, hml, hts, hown, hlk⟩ := id C
  have hl : lv_has ls 3 [(0, .ref a_o), (1, .int x1)] := hl
  unfold fX0_release at hf
  refine lv_aload_n hx hb dX0_release_0 rfl (lv_at hl 0 rfl) ?_
  refine lv_iload_n hx hb dX0_release_1 rfl (lv_at hl 1 rfl) ?_
  obtain ⟨q1, hq2, hf⟩ := pf_b hf
  have hPc := hP.sub (ws' := (WX0_isSeated cI cJ cZ cB a_o a_o_prices a_o_free a_o_sizes a_o_limits a_o_places a_o_paid a_o_queue v_o_asked v_o_waiting v_o_fee v_o_takings d_o_places)) [0, 3] rfl
  refine cl_roi (va_runV (As := [.int x1]) (rest := []) ⟨hx, hb, hml, hown, hts⟩ (kX0_isSeated l D cI cJ cZ cB a_o a_o_prices a_o_free a_o_sizes a_o_limits a_o_places a_o_paid a_o_queue v_o_asked v_o_waiting v_o_fee v_o_takings d_o_places x1 q1 hq2) (cwV 1 hts gX0_release_X0_isSeated rfl rfl rfl (by decide +kernel) ⟨Nat.le_of_ble_eq_true rfl, Nat.le_of_ble_eq_true rfl⟩) ⟨PRo.blind, va_recv hK.1 hPc (ci := 0) (q0 := 0) rfl rfl, PRo.at hK hPc⟩ rfl rfl hl.1 rfl (lv_room (Nat.le_of_ble_eq_true rfl)) dX0_release_2 ⟨Nat.zero_le _, Nat.zero_le _⟩) ?_
  refine lv_if_ne (tgt := 10) hx hb dX0_release_5 (by decide) (fun hc => ?_) (fun hc => ?_)
  · have hf := pf_f hc hf
    refine lv_iconst (v := (0 : Int32)) hx hb dX0_release_10 (by decide) ?_
    refine lv_aload_n hx hb dX0_release_11 rfl (lv_at hl 0 rfl) ?_
    refine va_get (D := D) (ci := 0) (v := .ref a_o_paid) (C := RX0) (T := TX0) (N := 11) hx hb hts iX0_release_X0 hown hK.1 hP 0 rfl rfl 5 (by decide) (hts (.fieldLink RX0 27 "LoneSeats$Bookings" "paid" "[I") (by decide +kernel)) (fun _ h9 => h9) rfl dX0_release_12 ?_
    refine lv_iload_n hx hb dX0_release_15 rfl (lv_at hl 1 rfl) ?_
    obtain ⟨hg3, hf⟩ := pf_x hf
    refine va_iald hx hb hK.1 hP 4 0 rfl rfl hg3 dX0_release_16 ?_
    refine lv_aload_n hx hb dX0_release_17 rfl (lv_at hl 0 rfl) ?_
    refine va_get (D := D) (ci := 0) (v := .ref a_o_sizes) (C := RX0) (T := TX0) (N := 11) hx hb hts iX0_release_X0 hown hK.1 hP 0 rfl rfl 2 (by decide) (hts (.fieldLink RX0 18 "LoneSeats$Bookings" "sizes" "[I") (by decide +kernel)) (fun _ h9 => h9) rfl dX0_release_18 ?_
    refine lv_iload_n hx hb dX0_release_21 rfl (lv_at hl 1 rfl) ?_
    obtain ⟨hg4, hf⟩ := pf_x hf
    refine va_iald hx hb hK.1 hP 2 0 rfl rfl hg4 dX0_release_22 ?_
    refine lv_aload_n hx hb dX0_release_23 rfl (lv_at hl 0 rfl) ?_
    refine va_get (D := D) (ci := 0) (v := .int v_o_fee) (C := RX0) (T := TX0) (N := 11) hx hb hts iX0_release_X0 hown hK.1 hP 0 rfl rfl 9 (by decide) (hts (.fieldLink RX0 53 "LoneSeats$Bookings" "fee" "I") (by decide +kernel)) (fun _ h9 => h9) rfl dX0_release_24 ?_
    refine lv_imul hx hb dX0_release_27 ?_
    refine lv_isub hx hb dX0_release_28 ?_
    refine va_mmax (x := (0 : Int32)) (y := ((d_o_paid (x1).toNatClampNeg) - ((d_o_sizes (x1).toNatClampNeg) * v_o_fee))) hx hb (hml.trans hl.1.symm) hown (hts (.methodLink RX0 111 Lib.Math.max.name) (by decide +kernel)) (hts (.static Lib.Math.max.name) (by decide +kernel)) (hts (.initialized "java/lang/Math") (by decide +kernel)) (hts (.code Lib.Math.max.name Lib.Math.max.code 2 (some .int)) (by decide +kernel)) (Nat.le_of_ble_eq_true rfl) (Nat.le_of_ble_eq_true rfl) (Nat.zero_le _) (Nat.zero_le _) dX0_release_29 ?_
    refine lv_istore_n (lv' := [(2, .int (if (0 : Int32) < ((d_o_paid (x1).toNatClampNeg) - ((d_o_sizes (x1).toNatClampNeg) * v_o_fee)) then ((d_o_paid (x1).toNatClampNeg) - ((d_o_sizes (x1).toNatClampNeg) * v_o_fee)) else (0 : Int32))), (0, .ref a_o), (1, .int x1)]) hx hb dX0_release_32 rfl hl (by decide) rfl (fun ls hl => ?_)
    refine lv_aload_n hx hb dX0_release_33 rfl (lv_at hl 1 rfl) ?_
    refine lv_aload_n hx hb dX0_release_34 rfl (lv_at hl 1 rfl) ?_
    refine va_get (D := D) (ci := 0) (v := .ref a_o_places) (C := RX0) (T := TX0) (N := 11) hx hb hts iX0_release_X0 hown hK.1 hP 0 rfl rfl 4 (by decide) (hts (.fieldLink RX0 24 "LoneSeats$Bookings" "places" "[I") (by decide +kernel)) (fun _ h9 => h9) rfl dX0_release_35 ?_
    refine lv_iload_n hx hb dX0_release_38 rfl (lv_at hl 2 rfl) ?_
    obtain ⟨hg5, hf⟩ := pf_x hf
    refine va_iald hx hb hK.1 hP 3 0 rfl rfl hg5 dX0_release_39 ?_
    refine lv_aload_n hx hb dX0_release_40 rfl (lv_at hl 1 rfl) ?_
    refine va_get (D := D) (ci := 0) (v := .ref a_o_sizes) (C := RX0) (T := TX0) (N := 11) hx hb hts iX0_release_X0 hown hK.1 hP 0 rfl rfl 2 (by decide) (hts (.fieldLink RX0 18 "LoneSeats$Bookings" "sizes" "[I") (by decide +kernel)) (fun _ h9 => h9) rfl dX0_release_41 ?_
    refine lv_iload_n hx hb dX0_release_44 rfl (lv_at hl 2 rfl) ?_
    obtain ⟨hg6, hf⟩ := pf_x hf
    refine va_iald hx hb hK.1 hP 2 0 rfl rfl hg6 dX0_release_45 ?_
    obtain ⟨q7, hq8, hf⟩ := pf_b hf
    have hPc := hP.sub (ws' := (WX0_clear cI cJ cZ cB a_o a_o_prices a_o_free a_o_sizes a_o_limits a_o_places a_o_paid a_o_queue v_o_asked v_o_waiting v_o_fee v_o_takings d_o_free)) [0, 1] rfl
    have hDc := hD.sub (ws' := (WX0_clear cI cJ cZ cB a_o a_o_prices a_o_free a_o_sizes a_o_limits a_o_places a_o_paid a_o_queue v_o_asked v_o_waiting v_o_fee v_o_takings d_o_free)) [0, 1] (by decide) rfl
    refine cl_rwv (wr := [(a_o_sizes, .inl (cI, (31, .inl d_o_sizes))), (a_o_places, .inl (cI, (31, .inl d_o_places))), (a_o_paid, .inl (cI, (31, .inl d_o_paid)))]) (wsN := (WX0_release cI cJ cZ cB a_o a_o_prices a_o_free a_o_sizes a_o_limits a_o_places a_o_paid a_o_queue v_o_asked v_o_waiting v_o_fee v_o_takings q7 d_o_sizes d_o_places d_o_paid)) (va_runV (As := [.int (d_o_places (x1).toNatClampNeg), .int (d_o_sizes (x1).toNatClampNeg)]) (rest := []) ⟨hx, hb, hml, hown, hts⟩ ((kX0_clear l D cI cJ cZ cB a_o a_o_prices a_o_free a_o_sizes a_o_limits a_o_places a_o_paid a_o_queue v_o_asked v_o_waiting v_o_fee v_o_takings d_o_free (d_o_places (x1).toNatClampNeg) (d_o_sizes (x1).toNatClampNeg) q7 hq8) _) (cwV 2 hts gX0_release_X0_clear rfl rfl rfl (by decide +kernel) ⟨Nat.le_of_ble_eq_true rfl, Nat.le_of_ble_eq_true rfl⟩) ⟨PRw.blind, va_recv hK.1 hPc (ci := 0) (q0 := 0) rfl rfl, PRw.at hK hPc hDc⟩ rfl rfl hl.1 rfl (lv_room (Nat.le_of_ble_eq_true rfl)) dX0_release_46 ⟨Nat.zero_le _, Nat.zero_le _⟩) hP hD hS hA [0, 1] [2, 3, 4] [3, 4, 0, 1, 2] rfl rfl (by decide) (by decide) rfl (by decide) (fun H locs hP hD hS => ?_)
    refine lv_aload_n hx hb dX0_release_49 rfl (lv_at hl 1 rfl) ?_
    refine va_get (D := D) (ci := 0) (v := .ref a_o_places) (C := RX0) (T := TX0) (N := 11) hx hb hts iX0_release_X0 hown hK.1 hP 0 rfl rfl 4 (by decide) (hts (.fieldLink RX0 24 "LoneSeats$Bookings" "places" "[I") (by decide +kernel)) (fun _ h9 => h9) rfl dX0_release_50 ?_
    refine lv_iload_n hx hb dX0_release_53 rfl (lv_at hl 2 rfl) ?_
    refine lv_bipush (v := (-9 : Int32)) hx hb dX0_release_54 (by decide) ?_
    obtain ⟨hg9, hf⟩ := pf_x hf
    refine va_iast hx hb hK.1 hP hD hS 3 0 rfl rfl hg9 dX0_release_56 (fun H locs hP hD hS => ?_)
    have hP : va_P D vwCl (WX0_release cI cJ cZ cB a_o a_o_prices a_o_free a_o_sizes a_o_limits a_o_places a_o_paid a_o_queue v_o_asked v_o_waiting v_o_fee v_o_takings q7 d_o_sizes (upd d_o_places ((x1).toNatClampNeg) (-9 : Int32)) d_o_paid) H := hP
    have hD : va_D A (WX0_release cI cJ cZ cB a_o a_o_prices a_o_free a_o_sizes a_o_limits a_o_places a_o_paid a_o_queue v_o_asked v_o_waiting v_o_fee v_o_takings q7 d_o_sizes (upd d_o_places ((x1).toNatClampNeg) (-9 : Int32)) d_o_paid) := hD
    refine lv_aload_n hx hb dX0_release_57 rfl (lv_at hl 1 rfl) ?_
    refine va_get (D := D) (ci := 0) (v := .ref a_o_paid) (C := RX0) (T := TX0) (N := 11) hx hb hts iX0_release_X0 hown hK.1 hP 0 rfl rfl 5 (by decide) (hts (.fieldLink RX0 27 "LoneSeats$Bookings" "paid" "[I") (by decide +kernel)) (fun _ h9 => h9) rfl dX0_release_58 ?_
    refine lv_iload_n hx hb dX0_release_61 rfl (lv_at hl 2 rfl) ?_
    refine lv_iconst (v := (0 : Int32)) hx hb dX0_release_62 (by decide) ?_
    obtain ⟨hg10, hf⟩ := pf_x hf
    refine va_iast hx hb hK.1 hP hD hS 4 0 rfl rfl hg10 dX0_release_63 (fun H locs hP hD hS => ?_)
    have hP : va_P D vwCl (WX0_release cI cJ cZ cB a_o a_o_prices a_o_free a_o_sizes a_o_limits a_o_places a_o_paid a_o_queue v_o_asked v_o_waiting v_o_fee v_o_takings q7 d_o_sizes (upd d_o_places ((x1).toNatClampNeg) (-9 : Int32)) (upd d_o_paid ((x1).toNatClampNeg) (0 : Int32))) H := hP
    have hD : va_D A (WX0_release cI cJ cZ cB a_o a_o_prices a_o_free a_o_sizes a_o_limits a_o_places a_o_paid a_o_queue v_o_asked v_o_waiting v_o_fee v_o_takings q7 d_o_sizes (upd d_o_places ((x1).toNatClampNeg) (-9 : Int32)) (upd d_o_paid ((x1).toNatClampNeg) (0 : Int32))) := hD
    refine lv_aload_n hx hb dX0_release_64 rfl (lv_at hl 1 rfl) ?_
    refine lv_dup hx hb dX0_release_65 rfl ?_
    refine va_get (D := D) (ci := 0) (v := .int v_o_takings) (C := RX0) (T := TX0) (N := 11) hx hb hts iX0_release_X0 hown hK.1 hP 0 rfl rfl 10 (by decide) (hts (.fieldLink RX0 56 "LoneSeats$Bookings" "takings" "I") (by decide +kernel)) (fun _ h9 => h9) rfl dX0_release_66 ?_
    refine lv_iload_n hx hb dX0_release_69 rfl (lv_at hl 0 rfl) ?_
    refine lv_isub hx hb dX0_release_70 ?_
    refine va_put (D := D) (ci := 0) (v := .int (v_o_takings - (if (0 : Int32) < ((d_o_paid (x1).toNatClampNeg) - ((d_o_sizes (x1).toNatClampNeg) * v_o_fee)) then ((d_o_paid (x1).toNatClampNeg) - ((d_o_sizes (x1).toNatClampNeg) * v_o_fee)) else (0 : Int32)))) (ty := .int) (C := RX0) (T := TX0) (N := 11) hx hb hts iX0_release_X0 tyX0 tyX0_ok nmX0 hown hK.1 hP hD hS 0 rfl rfl 10 (by decide) (hts (.fieldLink RX0 56 "LoneSeats$Bookings" "takings" "I") (by decide +kernel)) (fun _ h9 => h9) rfl (by decide +kernel) rfl rfl (Nat.le_of_ble_eq_true rfl) dX0_release_71 (fun H locs hP hD hS => ?_)
    have hP : va_P D vwCl (WX0_release cI cJ cZ cB a_o a_o_prices a_o_free a_o_sizes a_o_limits a_o_places a_o_paid a_o_queue v_o_asked v_o_waiting v_o_fee (v_o_takings - (if (0 : Int32) < ((d_o_paid (x1).toNatClampNeg) - ((d_o_sizes (x1).toNatClampNeg) * v_o_fee)) then ((d_o_paid (x1).toNatClampNeg) - ((d_o_sizes (x1).toNatClampNeg) * v_o_fee)) else (0 : Int32))) q7 d_o_sizes (upd d_o_places ((x1).toNatClampNeg) (-9 : Int32)) (upd d_o_paid ((x1).toNatClampNeg) (0 : Int32))) H := hP
    have hD : va_D A (WX0_release cI cJ cZ cB a_o a_o_prices a_o_free a_o_sizes a_o_limits a_o_places a_o_paid a_o_queue v_o_asked v_o_waiting v_o_fee (v_o_takings - (if (0 : Int32) < ((d_o_paid (x1).toNatClampNeg) - ((d_o_sizes (x1).toNatClampNeg) * v_o_fee)) then ((d_o_paid (x1).toNatClampNeg) - ((d_o_sizes (x1).toNatClampNeg) * v_o_fee)) else (0 : Int32))) q7 d_o_sizes (upd d_o_places ((x1).toNatClampNeg) (-9 : Int32)) (upd d_o_paid ((x1).toNatClampNeg) (0 : Int32))) := hD
    refine lv_iload_n hx hb dX0_release_74 rfl (lv_at hl 0 rfl) ?_
    cases hf
    exact W.iret hx hb hr (fun t ht hW => ⟨⟨rfl, by rw [ht]; exact hP, hD⟩, hS.F ht⟩) hS.2.2 dX0_release_75
  · have hf := pf_t hc hf
    refine lv_iconst (v := (0 : Int32)) hx hb dX0_release_8 (by decide) ?_
    cases hf
    exact W.iret hx hb hr (fun t ht hW => ⟨⟨rfl, by rw [ht]; exact hP, hD⟩, hS.F ht⟩) hS.2.2 dX0_release_9
