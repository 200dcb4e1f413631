abbrev WX0_move (cI cJ cZ cB : ClassId) (a_o : Nat) (a_o_prices : Nat) (a_o_free : Nat) (a_o_sizes : Nat) (a_o_limits : Nat) (a_o_places : Nat) (a_o_paid : Nat) (a_o_queue : Nat) (v_o_asked : Int32) (v_o_waiting : Int32) (v_o_fee : Int32) (v_o_takings : Int32) (d_o_free : (Nat → Int32)) (d_o_sizes : (Nat → Int32)) (d_o_places : (Nat → Int32)) : va_W := [(a_o, .inr (0, [.ref a_o_prices, .ref a_o_free, .ref a_o_sizes, .ref a_o_limits, .ref a_o_places, .ref a_o_paid, .ref a_o_queue, .int v_o_asked, .int v_o_waiting, .int v_o_fee, .int v_o_takings])), (a_o_free, .inl (cI, (4, .inl d_o_free))), (a_o_sizes, .inl (cI, (31, .inl d_o_sizes))), (a_o_places, .inl (cI, (31, .inl d_o_places)))]
set_option maxRecDepth 20000 in
theorem iX0_move_X0 : ∀ w ∈ wsX00, w ∈ wsX0_move := by decide +kernel
def fX0_move (v_o_asked : Int32) (d_o_free : (Nat → Int32)) (d_o_sizes : (Nat → Int32)) (d_o_places : (Nat → Int32)) (x1 : Int32) (x2 : Int32) : Option ((Nat → Int32) × (Nat → Int32)) := ((fX0_isSeated v_o_asked d_o_places x1).bind fun q1 => (if q1 = 0 then some (d_o_free, d_o_places) else (if x1 < 0 ∨ 31 ≤ (x1).toNatClampNeg then none else (if x1 < 0 ∨ 31 ≤ (x1).toNatClampNeg then none else ((fX0_clear d_o_free (d_o_places (x1).toNatClampNeg) (d_o_sizes (x1).toNatClampNeg)).bind fun q5 => (if x1 < 0 ∨ 31 ≤ (x1).toNatClampNeg then none else (if x1 < 0 ∨ 31 ≤ (x1).toNatClampNeg then none else ((fX0_take q5 x2 (d_o_sizes (x1).toNatClampNeg)).bind fun q9 => some (q9, (upd d_o_places ((x1).toNatClampNeg) x2))))))))))
set_option maxRecDepth 100000 in
set_option maxHeartbeats 4000000 in
theorem kX0_move (l : Launch) (D : va_G) (cI cJ cZ cB : ClassId) (a_o : Nat) (a_o_prices : Nat) (a_o_free : Nat) (a_o_sizes : Nat) (a_o_limits : Nat) (a_o_places : Nat) (a_o_paid : Nat) (a_o_queue : Nat) (v_o_asked : Int32) (v_o_waiting : Int32) (v_o_fee : Int32) (v_o_takings : Int32) (d_o_free : (Nat → Int32)) (d_o_sizes : (Nat → Int32)) (d_o_places : (Nat → Int32)) (x1 : Int32) (x2 : Int32) (res : (Nat → Int32) × (Nat → Int32)) (hf : fX0_move v_o_asked d_o_free d_o_sizes d_o_places x1 x2 = some res) : Rw l yX0_move wsX0_move ({ frames := 3, cells := 0, slots := 0, locals := 63 } : Room) D (tyL cI cJ cZ cB) [.ref a_o, .int x1, .int x2] (WX0_move cI cJ cZ cB a_o a_o_prices a_o_free a_o_sizes a_o_limits a_o_places a_o_paid a_o_queue v_o_asked v_o_waiting v_o_fee v_o_takings d_o_free d_o_sizes d_o_places) none (WX0_move cI cJ cZ cB a_o a_o_prices a_o_free a_o_sizes a_o_limits a_o_places a_o_paid a_o_queue v_o_asked v_o_waiting v_o_fee v_o_takings res.1 d_o_sizes res.2) := by
  refine Rw.of (cc := cX0_move) (maxL := 3) (ret := none) (own := RX0) (by decide) rfl rfl (Nat.le_of_ble_eq_true rfl) ?_
  intro p e s m below meth c A ls C hK hA hP hD hS hl
  obtain ⟨hx, hb, hr, hml, hts, hown, hlk⟩ := id C
  have hl : lv_has ls 3 [(0, .ref a_o), (1, .int x1), (2, .int x2)] := hl
  unfold fX0_move at hf
  refine lv_aload_n hx hb dX0_move_0 rfl (lv_at hl 0 rfl) ?_
  refine lv_iload_n hx hb dX0_move_1 rfl (lv_at hl 1 rfl) ?_
  obtain ⟨q1, hq2, hf⟩ := pf_b hf
  have hPc := hP.sub (ws' := (WX0_isSeated cI cJ cZ cB a_o a_o_prices a_o_free a_o_sizes a_o_limits a_o_places a_o_paid a_o_queue v_o_asked v_o_waiting v_o_fee v_o_takings d_o_places)) [0, 3] rfl
  refine cl_roi (va_runV (As := [.int x1]) (rest := []) ⟨hx, hb, hml, hown, hts⟩ (kX0_isSeated l D cI cJ cZ cB a_o a_o_prices a_o_free a_o_sizes a_o_limits a_o_places a_o_paid a_o_queue v_o_asked v_o_waiting v_o_fee v_o_takings d_o_places x1 q1 hq2) (cwV 1 hts gX0_move_X0_isSeated rfl rfl rfl (by decide +kernel) ⟨Nat.le_of_ble_eq_true rfl, Nat.le_of_ble_eq_true rfl⟩) ⟨PRo.blind, va_recv hK.1 hPc (ci := 0) (q0 := 0) rfl rfl, PRo.at hK hPc⟩ rfl rfl hl.1 rfl (lv_room (Nat.le_of_ble_eq_true rfl)) dX0_move_2 ⟨Nat.zero_le _, Nat.zero_le _⟩) ?_
  refine lv_if_ne (tgt := 9) hx hb dX0_move_5 (by decide) (fun hc => ?_) (fun hc => ?_)
  · have hf := pf_f hc hf
    refine lv_aload_n hx hb dX0_move_9 rfl (lv_at hl 0 rfl) ?_
    refine lv_aload_n hx hb dX0_move_10 rfl (lv_at hl 0 rfl) ?_
    refine va_get (D := D) (ci := 0) (v := .ref a_o_places) (C := RX0) (T := TX0) (N := 11) hx hb hts iX0_move_X0 hown hK.1 hP 0 rfl rfl 4 (by decide) (hts (.fieldLink RX0 24 "LoneSeats$Bookings" "places" "[I") (by decide +kernel)) (fun _ h9 => h9) rfl dX0_move_11 ?_
    refine lv_iload_n hx hb dX0_move_14 rfl (lv_at hl 1 rfl) ?_
    obtain ⟨hg3, hf⟩ := pf_x hf
    refine va_iald hx hb hK.1 hP 3 0 rfl rfl hg3 dX0_move_15 ?_
    refine lv_aload_n hx hb dX0_move_16 rfl (lv_at hl 0 rfl) ?_
    refine va_get (D := D) (ci := 0) (v := .ref a_o_sizes) (C := RX0) (T := TX0) (N := 11) hx hb hts iX0_move_X0 hown hK.1 hP 0 rfl rfl 2 (by decide) (hts (.fieldLink RX0 18 "LoneSeats$Bookings" "sizes" "[I") (by decide +kernel)) (fun _ h9 => h9) rfl dX0_move_17 ?_
    refine lv_iload_n hx hb dX0_move_20 rfl (lv_at hl 1 rfl) ?_
    obtain ⟨hg4, hf⟩ := pf_x hf
    refine va_iald hx hb hK.1 hP 2 0 rfl rfl hg4 dX0_move_21 ?_
    obtain ⟨q5, hq6, hf⟩ := pf_b hf
    have hPc := hP.sub (ws' := (WX0_clear cI cJ cZ cB a_o a_o_prices a_o_free a_o_sizes a_o_limits a_o_places a_o_paid a_o_queue v_o_asked v_o_waiting v_o_fee v_o_takings d_o_free)) [0, 1] rfl
    have hDc := hD.sub (ws' := (WX0_clear cI cJ cZ cB a_o a_o_prices a_o_free a_o_sizes a_o_limits a_o_places a_o_paid a_o_queue v_o_asked v_o_waiting v_o_fee v_o_takings d_o_free)) [0, 1] (by decide) rfl
    refine cl_rwv (wr := [(a_o_sizes, .inl (cI, (31, .inl d_o_sizes))), (a_o_places, .inl (cI, (31, .inl d_o_places)))]) (wsN := (WX0_move cI cJ cZ cB a_o a_o_prices a_o_free a_o_sizes a_o_limits a_o_places a_o_paid a_o_queue v_o_asked v_o_waiting v_o_fee v_o_takings q5 d_o_sizes d_o_places)) (va_runV (As := [.int (d_o_places (x1).toNatClampNeg), .int (d_o_sizes (x1).toNatClampNeg)]) (rest := []) ⟨hx, hb, hml, hown, hts⟩ ((kX0_clear l D cI cJ cZ cB a_o a_o_prices a_o_free a_o_sizes a_o_limits a_o_places a_o_paid a_o_queue v_o_asked v_o_waiting v_o_fee v_o_takings d_o_free (d_o_places (x1).toNatClampNeg) (d_o_sizes (x1).toNatClampNeg) q5 hq6) _) (cwV 2 hts gX0_move_X0_clear rfl rfl rfl (by decide +kernel) ⟨Nat.le_of_ble_eq_true rfl, Nat.le_of_ble_eq_true rfl⟩) ⟨PRw.blind, va_recv hK.1 hPc (ci := 0) (q0 := 0) rfl rfl, PRw.at hK hPc hDc⟩ rfl rfl hl.1 rfl (lv_room (Nat.le_of_ble_eq_true rfl)) dX0_move_22 ⟨Nat.zero_le _, Nat.zero_le _⟩) hP hD hS hA [0, 1] [2, 3] [2, 3, 0, 1] rfl rfl (by decide) (by decide) rfl (by decide) (fun H locs hP hD hS => ?_)
    refine lv_aload_n hx hb dX0_move_25 rfl (lv_at hl 0 rfl) ?_
    refine va_get (D := D) (ci := 0) (v := .ref a_o_places) (C := RX0) (T := TX0) (N := 11) hx hb hts iX0_move_X0 hown hK.1 hP 0 rfl rfl 4 (by decide) (hts (.fieldLink RX0 24 "LoneSeats$Bookings" "places" "[I") (by decide +kernel)) (fun _ h9 => h9) rfl dX0_move_26 ?_
    refine lv_iload_n hx hb dX0_move_29 rfl (lv_at hl 1 rfl) ?_
    refine lv_iload_n hx hb dX0_move_30 rfl (lv_at hl 2 rfl) ?_
    obtain ⟨hg7, hf⟩ := pf_x hf
    refine va_iast hx hb hK.1 hP hD hS 3 0 rfl rfl hg7 dX0_move_31 (fun H locs hP hD hS => ?_)
    have hP : va_P D vwCl (WX0_move cI cJ cZ cB a_o a_o_prices a_o_free a_o_sizes a_o_limits a_o_places a_o_paid a_o_queue v_o_asked v_o_waiting v_o_fee v_o_takings q5 d_o_sizes (upd d_o_places ((x1).toNatClampNeg) x2)) H := hP
    have hD : va_D A (WX0_move cI cJ cZ cB a_o a_o_prices a_o_free a_o_sizes a_o_limits a_o_places a_o_paid a_o_queue v_o_asked v_o_waiting v_o_fee v_o_takings q5 d_o_sizes (upd d_o_places ((x1).toNatClampNeg) x2)) := hD
    refine lv_aload_n hx hb dX0_move_32 rfl (lv_at hl 0 rfl) ?_
    refine lv_iload_n hx hb dX0_move_33 rfl (lv_at hl 2 rfl) ?_
    refine lv_aload_n hx hb dX0_move_34 rfl (lv_at hl 0 rfl) ?_
    refine va_get (D := D) (ci := 0) (v := .ref a_o_sizes) (C := RX0) (T := TX0) (N := 11) hx hb hts iX0_move_X0 hown hK.1 hP 0 rfl rfl 2 (by decide) (hts (.fieldLink RX0 18 "LoneSeats$Bookings" "sizes" "[I") (by decide +kernel)) (fun _ h9 => h9) rfl dX0_move_35 ?_
    refine lv_iload_n hx hb dX0_move_38 rfl (lv_at hl 1 rfl) ?_
    obtain ⟨hg8, hf⟩ := pf_x hf
    refine va_iald hx hb hK.1 hP 2 0 rfl rfl hg8 dX0_move_39 ?_
    obtain ⟨q9, hq10, hf⟩ := pf_b hf
    have hPc := hP.sub (ws' := (WX0_take cI cJ cZ cB a_o a_o_prices a_o_free a_o_sizes a_o_limits a_o_places a_o_paid a_o_queue v_o_asked v_o_waiting v_o_fee v_o_takings q5)) [0, 1] rfl
    have hDc := hD.sub (ws' := (WX0_take cI cJ cZ cB a_o a_o_prices a_o_free a_o_sizes a_o_limits a_o_places a_o_paid a_o_queue v_o_asked v_o_waiting v_o_fee v_o_takings q5)) [0, 1] (by decide) rfl
    refine cl_rwv (wr := [(a_o_sizes, .inl (cI, (31, .inl d_o_sizes))), (a_o_places, .inl (cI, (31, .inl (upd d_o_places ((x1).toNatClampNeg) x2))))]) (wsN := (WX0_move cI cJ cZ cB a_o a_o_prices a_o_free a_o_sizes a_o_limits a_o_places a_o_paid a_o_queue v_o_asked v_o_waiting v_o_fee v_o_takings q9 d_o_sizes (upd d_o_places ((x1).toNatClampNeg) x2))) (va_runV (As := [.int x2, .int (d_o_sizes (x1).toNatClampNeg)]) (rest := []) ⟨hx, hb, hml, hown, hts⟩ ((kX0_take l D cI cJ cZ cB a_o a_o_prices a_o_free a_o_sizes a_o_limits a_o_places a_o_paid a_o_queue v_o_asked v_o_waiting v_o_fee v_o_takings q5 x2 (d_o_sizes (x1).toNatClampNeg) q9 hq10) _) (cwV 2 hts gX0_move_X0_take rfl rfl rfl (by decide +kernel) ⟨Nat.le_of_ble_eq_true rfl, Nat.le_of_ble_eq_true rfl⟩) ⟨PRw.blind, va_recv hK.1 hPc (ci := 0) (q0 := 0) rfl rfl, PRw.at hK hPc hDc⟩ rfl rfl hl.1 rfl (lv_room (Nat.le_of_ble_eq_true rfl)) dX0_move_40 ⟨Nat.zero_le _, Nat.zero_le _⟩) hP hD hS hA [0, 1] [2, 3] [2, 3, 0, 1] rfl rfl (by decide) (by decide) rfl (by decide) (fun H locs hP hD hS => ?_)
    cases hf
    exact W.vret hx hb hr (fun t ht hW => ⟨⟨rfl, by rw [ht]; exact hP, hD⟩, hS.F ht⟩) hS.2.2 dX0_move_43
  · have hf := pf_t hc hf
    cases hf
    exact W.vret hx hb hr (fun t ht hW => ⟨⟨rfl, by rw [ht]; exact hP, hD⟩, hS.F ht⟩) hS.2.2 dX0_move_8
abbrev WX0_dequeue (cI cJ cZ cB : ClassId) (a_o : Nat) (a_o_prices : Nat) (a_o_free : Nat) (a_o_sizes : Nat) (a_o_limits : Nat) (a_o_places : Nat) (a_o_paid : Nat) (a_o_queue : Nat) (v_o_asked : Int32) (v_o_waiting : Int32) (v_o_fee : Int32) (v_o_takings : Int32) (d_o_queue : (Nat → Int32)) : va_W := [(a_o, .inr (0, [.ref a_o_prices, .ref a_o_free, .ref a_o_sizes, .ref a_o_limits, .ref a_o_places, .ref a_o_paid, .ref a_o_queue, .int v_o_asked, .int v_o_waiting, .int v_o_fee, .int v_o_takings])), (a_o_queue, .inl (cI, (5, .inl d_o_queue)))]
set_option maxRecDepth 20000 in
theorem iX0_dequeue_X0 : ∀ w ∈ wsX00, w ∈ wsX0_dequeue := by decide +kernel
def fX0_dequeue_50 (v_o_waiting : Int32) (d_o_queue : (Nat → Int32)) : Option (Int32 × (Nat → Int32)) := some ((v_o_waiting - (1 : Int32)), d_o_queue)
set_option maxRecDepth 100000 in
set_option maxHeartbeats 4000000 in
theorem tX0_dequeue_50 {p : Program} {l : Launch} {e : Env} {s : State} {m : MethodId} {args : Array Value} {below : List Frame} {meth : Method} {c : Code} {D : va_G} {cI cJ cZ cB : ClassId} {a_o : Nat} {a_o_prices : Nat} {a_o_free : Nat} {a_o_sizes : Nat} {a_o_limits : Nat} {a_o_places : Nat} {a_o_paid : Nat} {a_o_queue : Nat} {A : Nat → Prop} (C : Cx p s m args meth c cX0_dequeue 4 none wsX0_dequeue RX0) (hK : Kw D (tyL cI cJ cZ cB) s) (hA : ∀ q : Nat, s.heap.size ≤ q → A q) : ∀ (v_o_asked : Int32) (v_o_waiting : Int32) (v_o_fee : Int32) (v_o_takings : Int32) (d_o_queue : (Nat → Int32))  (H : Heap) (locs : List Loc) (ls : Array Slot) (res : Int32 × (Nat → Int32)), va_P D vwCl (WX0_dequeue cI cJ cZ cB a_o a_o_prices a_o_free a_o_sizes a_o_limits a_o_places a_o_paid a_o_queue v_o_asked v_o_waiting v_o_fee v_o_takings d_o_queue) H → va_D A (WX0_dequeue cI cJ cZ cB a_o a_o_prices a_o_free a_o_sizes a_o_limits a_o_places a_o_paid a_o_queue v_o_asked v_o_waiting v_o_fee v_o_takings d_o_queue) → va_S A s.heap H locs → lv_has ls 4 [(0, .ref a_o)] → fX0_dequeue_50 v_o_waiting d_o_queue = some res → W p l e ({ frames := 1, cells := 0, slots := 0, locals := 22 } : Room) s m args below meth c H locs 0 0 (MQ below (QRw D A (WX0_dequeue cI cJ cZ cB a_o a_o_prices a_o_free a_o_sizes a_o_limits a_o_places a_o_paid a_o_queue v_o_asked res.1 v_o_fee v_o_takings res.2) none) args s 0 0 A) (F0 m 50 ls []) := by
  obtain ⟨hx, hb, hr, hml, hts, hown, hlk⟩ := id C
  intro v_o_asked v_o_waiting v_o_fee v_o_takings d_o_queue H locs ls res hP hD hS hl hf
  unfold fX0_dequeue_50 at hf
  refine lv_aload_n hx hb dX0_dequeue_50 rfl (lv_at hl 0 rfl) ?_
  refine lv_dup hx hb dX0_dequeue_51 rfl ?_
  refine va_get (D := D) (ci := 0) (v := .int v_o_waiting) (C := RX0) (T := TX0) (N := 11) hx hb hts iX0_dequeue_X0 hown hK.1 hP 0 rfl rfl 8 (by decide) (hts (.fieldLink RX0 50 "LoneSeats$Bookings" "waiting" "I") (by decide +kernel)) (fun _ h9 => h9) rfl dX0_dequeue_52 ?_
  refine lv_iconst (v := (1 : Int32)) hx hb dX0_dequeue_55 (by decide) ?_
  refine lv_isub hx hb dX0_dequeue_56 ?_
  refine va_put (D := D) (ci := 0) (v := .int (v_o_waiting - (1 : Int32))) (ty := .int) (C := RX0) (T := TX0) (N := 11) hx hb hts iX0_dequeue_X0 tyX0 tyX0_ok nmX0 hown hK.1 hP hD hS 0 rfl rfl 8 (by decide) (hts (.fieldLink RX0 50 "LoneSeats$Bookings" "waiting" "I") (by decide +kernel)) (fun _ h9 => h9) rfl (by decide +kernel) rfl rfl (Nat.le_of_ble_eq_true rfl) dX0_dequeue_57 (fun H locs hP hD hS => ?_)
  have hP : va_P D vwCl (WX0_dequeue cI cJ cZ cB a_o a_o_prices a_o_free a_o_sizes a_o_limits a_o_places a_o_paid a_o_queue v_o_asked (v_o_waiting - (1 : Int32)) v_o_fee v_o_takings d_o_queue) H := hP
  have hD : va_D A (WX0_dequeue cI cJ cZ cB a_o a_o_prices a_o_free a_o_sizes a_o_limits a_o_places a_o_paid a_o_queue v_o_asked (v_o_waiting - (1 : Int32)) v_o_fee v_o_takings d_o_queue) := hD
  cases hf
  exact W.vret hx hb hr (fun t ht hW => ⟨⟨rfl, by rw [ht]; exact hP, hD⟩, hS.F ht⟩) hS.2.2 dX0_dequeue_60
def fX0_dequeue_13 : Nat → Int32 → (Nat → Int32) → Int32 → Option (Int32 × (Nat → Int32))
  | 0, _, _, _ => none
  | n + 1, v_o_waiting, d_o_queue, x3 => (if v_o_waiting ≤ (x3 + (1 : Int32)) then fX0_dequeue_50 v_o_waiting d_o_queue else (if (5 : Int32) ≤ (x3 + (1 : Int32)) then fX0_dequeue_50 v_o_waiting d_o_queue else (if (x3 + (1 : Int32)) < 0 ∨ 5 ≤ ((x3 + (1 : Int32))).toNatClampNeg then none else (if x3 < 0 ∨ 5 ≤ (x3).toNatClampNeg then none else fX0_dequeue_13 n v_o_waiting (upd d_o_queue ((x3).toNatClampNeg) (d_o_queue ((x3 + (1 : Int32))).toNatClampNeg)) (x3 + (1 : Int32))))))
set_option maxRecDepth 100000 in
set_option maxHeartbeats 4000000 in
theorem tX0_dequeue_13 {p : Program} {l : Launch} {e : Env} {s : State} {m : MethodId} {args : Array Value} {below : List Frame} {meth : Method} {c : Code} {D : va_G} {cI cJ cZ cB : ClassId} {a_o : Nat} {a_o_prices : Nat} {a_o_free : Nat} {a_o_sizes : Nat} {a_o_limits : Nat} {a_o_places : Nat} {a_o_paid : Nat} {a_o_queue : Nat} {A : Nat → Prop} (C : Cx p s m args meth c cX0_dequeue 4 none wsX0_dequeue RX0) (hK : Kw D (tyL cI cJ cZ cB) s) (hA : ∀ q : Nat, s.heap.size ≤ q → A q) : ∀ (n : Nat), ∀ (v_o_asked : Int32) (v_o_waiting : Int32) (v_o_fee : Int32) (v_o_takings : Int32) (d_o_queue : (Nat → Int32)) (x3 : Int32) (H : Heap) (locs : List Loc) (ls : Array Slot) (res : Int32 × (Nat → Int32)), va_P D vwCl (WX0_dequeue cI cJ cZ cB a_o a_o_prices a_o_free a_o_sizes a_o_limits a_o_places a_o_paid a_o_queue v_o_asked v_o_waiting v_o_fee v_o_takings d_o_queue) H → va_D A (WX0_dequeue cI cJ cZ cB a_o a_o_prices a_o_free a_o_sizes a_o_limits a_o_places a_o_paid a_o_queue v_o_asked v_o_waiting v_o_fee v_o_takings d_o_queue) → va_S A s.heap H locs → lv_has ls 4 [(0, .ref a_o), (3, .int x3)] → fX0_dequeue_13 n v_o_waiting d_o_queue x3 = some res → W p l e ({ frames := 1, cells := 0, slots := 0, locals := 22 } : Room) s m args below meth c H locs 0 0 (MQ below (QRw D A (WX0_dequeue cI cJ cZ cB a_o a_o_prices a_o_free a_o_sizes a_o_limits a_o_places a_o_paid a_o_queue v_o_asked res.1 v_o_fee v_o_takings res.2) none) args s 0 0 A) (F0 m 13 ls []) := by
  obtain ⟨hx, hb, hr, hml, hts, hown, hlk⟩ := id C
  intro n
  induction n with
  | zero =>
    intro v_o_asked v_o_waiting v_o_fee v_o_takings d_o_queue x3 H locs ls res hP hD hS hl hf
    rw [fX0_dequeue_13] at hf
    cases hf
  | succ n ih =>
    intro v_o_asked v_o_waiting v_o_fee v_o_takings d_o_queue x3 H locs ls res hP hD hS hl hf
    rw [fX0_dequeue_13] at hf
    refine lv_iload_n hx hb dX0_dequeue_13 rfl (lv_at hl 1 rfl) ?_
    refine lv_iconst (v := (1 : Int32)) hx hb dX0_dequeue_14 (by decide) ?_
    refine lv_iadd hx hb dX0_dequeue_15 ?_
    refine lv_aload_n hx hb dX0_dequeue_16 rfl (lv_at hl 0 rfl) ?_
    refine va_get (D := D) (ci := 0) (v := .int v_o_waiting) (C := RX0) (T := TX0) (N := 11) hx hb hts iX0_dequeue_X0 hown hK.1 hP 0 rfl rfl 8 (by decide) (hts (.fieldLink RX0 50 "LoneSeats$Bookings" "waiting" "I") (by decide +kernel)) (fun _ h9 => h9) rfl dX0_dequeue_17 ?_
    refine lv_icmp_ge (tgt := 50) hx hb dX0_dequeue_20 (by decide) (fun hc => ?_) (fun hc => ?_)
    · have hf := pf_t hc hf
      exact tX0_dequeue_50 C hK hA  v_o_asked v_o_waiting v_o_fee v_o_takings d_o_queue _ _ ls _ hP hD hS (lv_sub hl [0] rfl) hf
    · have hf := pf_f hc hf
      refine lv_iload_n hx hb dX0_dequeue_23 rfl (lv_at hl 1 rfl) ?_
      refine lv_iconst (v := (1 : Int32)) hx hb dX0_dequeue_24 (by decide) ?_
      refine lv_iadd hx hb dX0_dequeue_25 ?_
      refine lv_iconst (v := (5 : Int32)) hx hb dX0_dequeue_26 (by decide) ?_
      refine lv_icmp_ge (tgt := 50) hx hb dX0_dequeue_27 (by decide) (fun hc => ?_) (fun hc => ?_)
      · have hf := pf_t hc hf
        exact tX0_dequeue_50 C hK hA  v_o_asked v_o_waiting v_o_fee v_o_takings d_o_queue _ _ ls _ hP hD hS (lv_sub hl [0] rfl) hf
      · have hf := pf_f hc hf
        refine lv_aload_n hx hb dX0_dequeue_30 rfl (lv_at hl 0 rfl) ?_
        refine va_get (D := D) (ci := 0) (v := .ref a_o_queue) (C := RX0) (T := TX0) (N := 11) hx hb hts iX0_dequeue_X0 hown hK.1 hP 0 rfl rfl 6 (by decide) (hts (.fieldLink RX0 30 "LoneSeats$Bookings" "queue" "[I") (by decide +kernel)) (fun _ h9 => h9) rfl dX0_dequeue_31 ?_
        refine lv_iload_n hx hb dX0_dequeue_34 rfl (lv_at hl 1 rfl) ?_
        refine lv_aload_n hx hb dX0_dequeue_35 rfl (lv_at hl 0 rfl) ?_
        refine va_get (D := D) (ci := 0) (v := .ref a_o_queue) (C := RX0) (T := TX0) (N := 11) hx hb hts iX0_dequeue_X0 hown hK.1 hP 0 rfl rfl 6 (by decide) (hts (.fieldLink RX0 30 "LoneSeats$Bookings" "queue" "[I") (by decide +kernel)) (fun _ h9 => h9) rfl dX0_dequeue_36 ?_
        refine lv_iload_n hx hb dX0_dequeue_39 rfl (lv_at hl 1 rfl) ?_
        refine lv_iconst (v := (1 : Int32)) hx hb dX0_dequeue_40 (by decide) ?_
        refine lv_iadd hx hb dX0_dequeue_41 ?_
        obtain ⟨hg1, hf⟩ := pf_x hf
        refine va_iald hx hb hK.1 hP 1 0 rfl rfl hg1 dX0_dequeue_42 ?_
        obtain ⟨hg2, hf⟩ := pf_x hf
        refine va_iast hx hb hK.1 hP hD hS 1 0 rfl rfl hg2 dX0_dequeue_43 (fun H locs hP hD hS => ?_)
        have hP : va_P D vwCl (WX0_dequeue cI cJ cZ cB a_o a_o_prices a_o_free a_o_sizes a_o_limits a_o_places a_o_paid a_o_queue v_o_asked v_o_waiting v_o_fee v_o_takings (upd d_o_queue ((x3).toNatClampNeg) (d_o_queue ((x3 + (1 : Int32))).toNatClampNeg))) H := hP
        have hD : va_D A (WX0_dequeue cI cJ cZ cB a_o a_o_prices a_o_free a_o_sizes a_o_limits a_o_places a_o_paid a_o_queue v_o_asked v_o_waiting v_o_fee v_o_takings (upd d_o_queue ((x3).toNatClampNeg) (d_o_queue ((x3 + (1 : Int32))).toNatClampNeg))) := hD
        refine lv_iinc (v := (x3 + (1 : Int32))) (lv' := [(3, .int (x3 + (1 : Int32))), (0, .ref a_o)]) hx hb dX0_dequeue_44 hl (k := 1) rfl rfl (by decide) rfl (fun ls hl => ?_)
        refine lv_goto (tgt := 13) hx hb dX0_dequeue_47 (by decide) ?_
        exact ih v_o_asked v_o_waiting v_o_fee v_o_takings (upd d_o_queue ((x3).toNatClampNeg) (d_o_queue ((x3 + (1 : Int32))).toNatClampNeg)) (x3 + (1 : Int32)) _ _ ls _ hP hD hS (lv_sub hl [1, 0] rfl) hf
def fX0_dequeue (v_o_waiting : Int32) (d_o_queue : (Nat → Int32)) (x1 : Int32) : Option (Int32 × (Nat → Int32)) := ((fX0_positionOf v_o_waiting d_o_queue x1).bind fun q1 => (if 0 ≤ q1 then fX0_dequeue_13 FU v_o_waiting d_o_queue q1 else some (v_o_waiting, d_o_queue)))
set_option maxRecDepth 100000 in
set_option maxHeartbeats 4000000 in
theorem kX0_dequeue (l : Launch) (D : va_G) (cI cJ cZ cB : ClassId) (a_o : Nat) (a_o_prices : Nat) (a_o_free : Nat) (a_o_sizes : Nat) (a_o_limits : Nat) (a_o_places : Nat) (a_o_paid : Nat) (a_o_queue : Nat) (v_o_asked : Int32) (v_o_waiting : Int32) (v_o_fee : Int32) (v_o_takings : Int32) (d_o_queue : (Nat → Int32)) (x1 : Int32) (res : Int32 × (Nat → Int32)) (hf : fX0_dequeue v_o_waiting d_o_queue x1 = some res) : Rw l yX0_dequeue wsX0_dequeue ({ frames := 1, cells := 0, slots := 0, locals := 22 } : Room) D (tyL cI cJ cZ cB) [.ref a_o, .int x1] (WX0_dequeue cI cJ cZ cB a_o a_o_prices a_o_free a_o_sizes a_o_limits a_o_places a_o_paid a_o_queue v_o_asked v_o_waiting v_o_fee v_o_takings d_o_queue) none (WX0_dequeue cI cJ cZ cB a_o a_o_prices a_o_free a_o_sizes a_o_limits a_o_places a_o_paid a_o_queue v_o_asked res.1 v_o_fee v_o_takings res.2) := by
  refine Rw.of (cc := cX0_dequeue) (maxL := 4) (ret := none) (own := RX0) (by decide) rfl rfl (Nat.le_of_ble_eq_true rfl) ?_
  intro p e s m below meth c A ls C hK hA hP hD hS hl
  obtain ⟨hx, hb, hr, hml, hts, hown, hlk⟩ := id C
  have hl : lv_has ls 4 [(0, .ref a_o), (1, .int x1)] := hl
  unfold fX0_dequeue at hf
  refine lv_aload_n hx hb dX0_dequeue_0 rfl (lv_at hl 0 rfl) ?_
  refine lv_iload_n hx hb dX0_dequeue_1 rfl (lv_at hl 1 rfl) ?_
  obtain ⟨q1, hq2, hf⟩ := pf_b hf
  have hPc := hP.sub (ws' := (WX0_positionOf cI cJ cZ cB a_o a_o_prices a_o_free a_o_sizes a_o_limits a_o_places a_o_paid a_o_queue v_o_asked v_o_waiting v_o_fee v_o_takings d_o_queue)) [0, 1] rfl
  refine cl_roi (va_runV (As := [.int x1]) (rest := []) ⟨hx, hb, hml, hown, hts⟩ (kX0_positionOf l D cI cJ cZ cB a_o a_o_prices a_o_free a_o_sizes a_o_limits a_o_places a_o_paid a_o_queue v_o_asked v_o_waiting v_o_fee v_o_takings d_o_queue x1 q1 hq2) (cwV 1 hts gX0_dequeue_X0_positionOf rfl rfl rfl (by decide +kernel) ⟨Nat.le_of_ble_eq_true rfl, Nat.le_of_ble_eq_true rfl⟩) ⟨PRo.blind, va_recv hK.1 hPc (ci := 0) (q0 := 0) rfl rfl, PRo.at hK hPc⟩ rfl rfl hl.1 rfl (lv_room (Nat.le_of_ble_eq_true rfl)) dX0_dequeue_2 ⟨Nat.zero_le _, Nat.zero_le _⟩) ?_
  refine lv_istore_n (lv' := [(2, .int q1), (0, .ref a_o), (1, .int x1)]) hx hb dX0_dequeue_5 rfl hl (by decide) rfl (fun ls hl => ?_)
  refine lv_iload_n hx hb dX0_dequeue_6 rfl (lv_at hl 0 rfl) ?_
  refine lv_if_ge (tgt := 11) hx hb dX0_dequeue_7 (by decide) (fun hc => ?_) (fun hc => ?_)
  · have hf := pf_t hc hf
    refine lv_iload_n hx hb dX0_dequeue_11 rfl (lv_at hl 0 rfl) ?_
    refine lv_istore_n (lv' := [(3, .int q1), (2, .int q1), (0, .ref a_o), (1, .int x1)]) hx hb dX0_dequeue_12 rfl hl (by decide) rfl (fun ls hl => ?_)
    exact tX0_dequeue_13 C hK hA  FU v_o_asked v_o_waiting v_o_fee v_o_takings d_o_queue q1 _ _ ls _ hP hD hS (lv_sub hl [2, 0] rfl) hf
  · have hf := pf_f hc hf
    cases hf
    exact W.vret hx hb hr (fun t ht hW => ⟨⟨rfl, by rw [ht]; exact hP, hD⟩, hS.F ht⟩) hS.2.2 dX0_dequeue_10
abbrev WX1_places (cI cJ cZ cB : ClassId) (a_o : Nat) (v_o_places : Int32) (v_o_place : Int32) (v_o_quality : Int32) (v_o_price : Int32) : va_W := [(a_o, .inr (1, [.int v_o_places, .int v_o_place, .int v_o_quality, .int v_o_price]))]
set_option maxRecDepth 20000 in
theorem iX1_places_X1 : ∀ w ∈ wsX10, w ∈ wsX1_places := by decide +kernel
def fX1_places (v_o_places : Int32) : Option (Int32) := some v_o_places
set_option maxRecDepth 100000 in
set_option maxHeartbeats 4000000 in
theorem kX1_places (l : Launch) (D : va_G) (cI cJ cZ cB : ClassId) (a_o : Nat) (v_o_places : Int32) (v_o_place : Int32) (v_o_quality : Int32) (v_o_price : Int32) (res : Int32) (hf : fX1_places v_o_places = some res) : Ro l yX1_places wsX1_places ({ frames := 0, cells := 0, slots := 0, locals := 0 } : Room) D (tyL cI cJ cZ cB) [.ref a_o] (WX1_places cI cJ cZ cB a_o v_o_places v_o_place v_o_quality v_o_price) (some (.int res)) := by
  refine Ro.of (cc := cX1_places) (maxL := 1) (ret := (some .int)) (own := RX1) (by decide) rfl rfl (Nat.le_of_ble_eq_true rfl) ?_
  intro p e s m below meth c ls C hK hP hl
  obtain ⟨hx, hb, hr, hml, hts, hown, hlk⟩ := id C
  have hl : lv_has ls 1 [(0, .ref a_o)] := hl
  unfold fX1_places at hf
  refine lv_aload_n hx hb dX1_places_0 rfl (lv_at hl 0 rfl) ?_
  refine va_get (D := D) (ci := 1) (v := .int v_o_places) (C := RX1) (T := TX1) (N := 4) hx hb hts iX1_places_X1 hown hK.1 hP 0 rfl rfl 0 (by decide) (hts (.fieldLink RX1 9 "LoneSeats$Finder" "places" "I") (by decide +kernel)) (fun _ h9 => h9) rfl dX1_places_1 ?_
  cases hf
  exact W.iret hx hb hr (fun t ht hW => ⟨rfl, ht⟩) (fun _ h => absurd h List.not_mem_nil) dX1_places_4
abbrev WX1_quality (cI cJ cZ cB : ClassId) (a_o : Nat) (v_o_places : Int32) (v_o_place : Int32) (v_o_quality : Int32) (v_o_price : Int32) : va_W := [(a_o, .inr (1, [.int v_o_places, .int v_o_place, .int v_o_quality, .int v_o_price]))]
set_option maxRecDepth 20000 in
theorem iX1_quality_X1 : ∀ w ∈ wsX10, w ∈ wsX1_quality := by decide +kernel
def fX1_quality (v_o_quality : Int32) : Option (Int32) := some v_o_quality
set_option maxRecDepth 100000 in
set_option maxHeartbeats 4000000 in
theorem kX1_quality (l : Launch) (D : va_G) (cI cJ cZ cB : ClassId) (a_o : Nat) (v_o_places : Int32) (v_o_place : Int32) (v_o_quality : Int32) (v_o_price : Int32) (res : Int32) (hf : fX1_quality v_o_quality = some res) : Ro l yX1_quality wsX1_quality ({ frames := 0, cells := 0, slots := 0, locals := 0 } : Room) D (tyL cI cJ cZ cB) [.ref a_o] (WX1_quality cI cJ cZ cB a_o v_o_places v_o_place v_o_quality v_o_price) (some (.int res)) := by
  refine Ro.of (cc := cX1_quality) (maxL := 1) (ret := (some .int)) (own := RX1) (by decide) rfl rfl (Nat.le_of_ble_eq_true rfl) ?_
  intro p e s m below meth c ls C hK hP hl
  obtain ⟨hx, hb, hr, hml, hts, hown, hlk⟩ := id C
  have hl : lv_has ls 1 [(0, .ref a_o)] := hl
  unfold fX1_quality at hf
  refine lv_aload_n hx hb dX1_quality_0 rfl (lv_at hl 0 rfl) ?_
  refine va_get (D := D) (ci := 1) (v := .int v_o_quality) (C := RX1) (T := TX1) (N := 4) hx hb hts iX1_quality_X1 hown hK.1 hP 0 rfl rfl 2 (by decide) (hts (.fieldLink RX1 15 "LoneSeats$Finder" "quality" "I") (by decide +kernel)) (fun _ h9 => h9) rfl dX1_quality_1 ?_
  cases hf
  exact W.iret hx hb hr (fun t ht hW => ⟨rfl, ht⟩) (fun _ h => absurd h List.not_mem_nil) dX1_quality_4
abbrev WX4_rows (cI cJ cZ cB : ClassId) (a_o : Nat) (a_o_prices : Nat) (a_o_seats : Nat) (a_o_joined : Nat) (a_o_views : Nat) (v_o_rows : Int32) (v_o_awaited : Int32) : va_W := [(a_o, .inr (4, [.ref a_o_prices, .ref a_o_seats, .ref a_o_joined, .ref a_o_views, .int v_o_rows, .int v_o_awaited]))]
set_option maxRecDepth 20000 in
theorem iX4_rows_X4 : ∀ w ∈ wsX40, w ∈ wsX4_rows := by decide +kernel
def fX4_rows (v_o_rows : Int32) : Option (Int32) := some v_o_rows
set_option maxRecDepth 100000 in
set_option maxHeartbeats 4000000 in
theorem kX4_rows (l : Launch) (D : va_G) (cI cJ cZ cB : ClassId) (a_o : Nat) (a_o_prices : Nat) (a_o_seats : Nat) (a_o_joined : Nat) (a_o_views : Nat) (v_o_rows : Int32) (v_o_awaited : Int32) (res : Int32) (hf : fX4_rows v_o_rows = some res) : Ro l yX4_rows wsX4_rows ({ frames := 0, cells := 0, slots := 0, locals := 0 } : Room) D (tyL cI cJ cZ cB) [.ref a_o] (WX4_rows cI cJ cZ cB a_o a_o_prices a_o_seats a_o_joined a_o_views v_o_rows v_o_awaited) (some (.int res)) := by
  refine Ro.of (cc := cX4_rows) (maxL := 1) (ret := (some .int)) (own := RX4) (by decide) rfl rfl (Nat.le_of_ble_eq_true rfl) ?_
  intro p e s m below meth c ls C hK hP hl
  obtain ⟨hx, hb, hr, hml, hts, hown, hlk⟩ := id C
  have hl : lv_has ls 1 [(0, .ref a_o)] := hl
  unfold fX4_rows at hf
  refine lv_aload_n hx hb dX4_rows_0 rfl (lv_at hl 0 rfl) ?_
  refine va_get (D := D) (ci := 4) (v := .int v_o_rows) (C := RX4) (T := TX4) (N := 6) hx hb hts iX4_rows_X4 hown hK.1 hP 0 rfl rfl 4 (by decide) (hts (.fieldLink RX4 24 "LoneSeats$Plan" "rows" "I") (by decide +kernel)) (fun _ h9 => h9) rfl dX4_rows_1 ?_
  cases hf
  exact W.iret hx hb hr (fun t ht hW => ⟨rfl, ht⟩) (fun _ h => absurd h List.not_mem_nil) dX4_rows_4
abbrev WX4_loneOf (cI cJ cZ cB : ClassId) (a_o : Nat) (a_o_prices : Nat) (a_o_seats : Nat) (a_o_joined : Nat) (a_o_views : Nat) (v_o_rows : Int32) (v_o_awaited : Int32) (d_o_joined : (Nat → Int32)) : va_W := [(a_o, .inr (4, [.ref a_o_prices, .ref a_o_seats, .ref a_o_joined, .ref a_o_views, .int v_o_rows, .int v_o_awaited])), (a_o_joined, .inl (cI, (4, .inl d_o_joined)))]
set_option maxRecDepth 20000 in
theorem iX4_loneOf_X4 : ∀ w ∈ wsX40, w ∈ wsX4_loneOf := by decide +kernel
def fX4_loneOf (v_o_rows : Int32) (d_o_joined : (Nat → Int32)) (x1 : Int32) (x2 : Int32) : Option (Int32) := ((fX4_hasRow v_o_rows x1).bind fun q1 => (if q1 = 0 then some (0 : Int32) else (if x1 < 0 ∨ 4 ≤ (x1).toNatClampNeg then none else (if x1 < 0 ∨ 4 ≤ (x1).toNatClampNeg then none else some ((x2 &&& (((x2 >>> ((1 : Int32) &&& 31)) &&& (d_o_joined (x1).toNatClampNeg)) ^^^ (-1 : Int32))) &&& (((x2 &&& (d_o_joined (x1).toNatClampNeg)) <<< ((1 : Int32) &&& 31)) ^^^ (-1 : Int32)))))))
set_option maxRecDepth 100000 in
set_option maxHeartbeats 4000000 in
theorem kX4_loneOf (l : Launch) (D : va_G) (cI cJ cZ cB : ClassId) (a_o : Nat) (a_o_prices : Nat) (a_o_seats : Nat) (a_o_joined : Nat) (a_o_views : Nat) (v_o_rows : Int32) (v_o_awaited : Int32) (d_o_joined : (Nat → Int32)) (x1 : Int32) (x2 : Int32) (res : Int32) (hf : fX4_loneOf v_o_rows d_o_joined x1 x2 = some res) : Ro l yX4_loneOf wsX4_loneOf ({ frames := 1, cells := 0, slots := 0, locals := 21 } : Room) D (tyL cI cJ cZ cB) [.ref a_o, .int x1, .int x2] (WX4_loneOf cI cJ cZ cB a_o a_o_prices a_o_seats a_o_joined a_o_views v_o_rows v_o_awaited d_o_joined) (some (.int res)) := by
  refine Ro.of (cc := cX4_loneOf) (maxL := 5) (ret := (some .int)) (own := RX4) (by decide) rfl rfl (Nat.le_of_ble_eq_true rfl) ?_
  intro p e s m below meth c ls C hK hP hl
  obtain ⟨hx, hb, hr, hml, hts, hown, hlk⟩ := id C
  have hl : lv_has ls 5 [(0, .ref a_o), (1, .int x1), (2, .int x2)] := hl
  unfold fX4_loneOf at hf
  refine lv_aload_n hx hb dX4_loneOf_0 rfl (lv_at hl 0 rfl) ?_
  refine lv_iload_n hx hb dX4_loneOf_1 rfl (lv_at hl 1 rfl) ?_
  obtain ⟨q1, hq2, hf⟩ := pf_b hf
  have hPc := hP.sub (ws' := (WX4_hasRow cI cJ cZ cB a_o a_o_prices a_o_seats a_o_joined a_o_views v_o_rows v_o_awaited)) [0] rfl
  refine cl_roi (va_runV (As := [.int x1]) (rest := []) ⟨hx, hb, hml, hown, hts⟩ (kX4_hasRow l D cI cJ cZ cB a_o a_o_prices a_o_seats a_o_joined a_o_views v_o_rows v_o_awaited x1 q1 hq2) (cwV 1 hts gX4_loneOf_X4_hasRow rfl rfl rfl (by decide +kernel) ⟨Nat.le_of_ble_eq_true rfl, Nat.le_of_ble_eq_true rfl⟩) ⟨PRo.blind, va_recv hK.1 hPc (ci := 4) (q0 := 0) rfl rfl, PRo.at hK hPc⟩ rfl rfl hl.1 rfl (lv_room (Nat.le_of_ble_eq_true rfl)) dX4_loneOf_2 ⟨Nat.zero_le _, Nat.zero_le _⟩) ?_
  refine lv_if_ne (tgt := 10) hx hb dX4_loneOf_5 (by decide) (fun hc => ?_) (fun hc => ?_)
  · have hf := pf_f hc hf
    refine lv_iload_n hx hb dX4_loneOf_10 rfl (lv_at hl 2 rfl) ?_
    refine lv_iconst (v := (1 : Int32)) hx hb dX4_loneOf_11 (by decide) ?_
    refine lv_ishr hx hb dX4_loneOf_12 ?_
    refine lv_aload_n hx hb dX4_loneOf_13 rfl (lv_at hl 0 rfl) ?_
    refine va_get (D := D) (ci := 4) (v := .ref a_o_joined) (C := RX4) (T := TX4) (N := 6) hx hb hts iX4_loneOf_X4 hown hK.1 hP 0 rfl rfl 2 (by decide) (hts (.fieldLink RX4 18 "LoneSeats$Plan" "joined" "[I") (by decide +kernel)) (fun _ h9 => h9) rfl dX4_loneOf_14 ?_
    refine lv_iload_n hx hb dX4_loneOf_17 rfl (lv_at hl 1 rfl) ?_
    obtain ⟨hg3, hf⟩ := pf_x hf
    refine va_iald hx hb hK.1 hP 1 0 rfl rfl hg3 dX4_loneOf_18 ?_
    refine lv_iand hx hb dX4_loneOf_19 ?_
    refine lv_istore_n (lv' := [(3, .int ((x2 >>> ((1 : Int32) &&& 31)) &&& (d_o_joined (x1).toNatClampNeg))), (0, .ref a_o), (1, .int x1), (2, .int x2)]) hx hb dX4_loneOf_20 rfl hl (by decide) rfl (fun ls hl => ?_)
    refine lv_iload_n hx hb dX4_loneOf_21 rfl (lv_at hl 3 rfl) ?_
    refine lv_aload_n hx hb dX4_loneOf_22 rfl (lv_at hl 1 rfl) ?_
    refine va_get (D := D) (ci := 4) (v := .ref a_o_joined) (C := RX4) (T := TX4) (N := 6) hx hb hts iX4_loneOf_X4 hown hK.1 hP 0 rfl rfl 2 (by decide) (hts (.fieldLink RX4 18 "LoneSeats$Plan" "joined" "[I") (by decide +kernel)) (fun _ h9 => h9) rfl dX4_loneOf_23 ?_
    refine lv_iload_n hx hb dX4_loneOf_26 rfl (lv_at hl 2 rfl) ?_
    obtain ⟨hg4, hf⟩ := pf_x hf
    refine va_iald hx hb hK.1 hP 1 0 rfl rfl hg4 dX4_loneOf_27 ?_
    refine lv_iand hx hb dX4_loneOf_28 ?_
    refine lv_iconst (v := (1 : Int32)) hx hb dX4_loneOf_29 (by decide) ?_
    refine lv_ishl hx hb dX4_loneOf_30 ?_
    refine lv_istore (lv' := [(4, .int ((x2 &&& (d_o_joined (x1).toNatClampNeg)) <<< ((1 : Int32) &&& 31))), (3, .int ((x2 >>> ((1 : Int32) &&& 31)) &&& (d_o_joined (x1).toNatClampNeg))), (0, .ref a_o), (1, .int x1), (2, .int x2)]) hx hb dX4_loneOf_31 hl (by decide) rfl (fun ls hl => ?_)
    refine lv_iload_n hx hb dX4_loneOf_33 rfl (lv_at hl 4 rfl) ?_
    refine lv_iload_n hx hb dX4_loneOf_34 rfl (lv_at hl 1 rfl) ?_
    refine lv_iconst (v := (-1 : Int32)) hx hb dX4_loneOf_35 (by decide) ?_
    refine lv_ixor hx hb dX4_loneOf_36 ?_
    refine lv_iand hx hb dX4_loneOf_37 ?_
    refine lv_iload hx hb dX4_loneOf_38 (lv_at hl 0 rfl) ?_
    refine lv_iconst (v := (-1 : Int32)) hx hb dX4_loneOf_40 (by decide) ?_
    refine lv_ixor hx hb dX4_loneOf_41 ?_
    refine lv_iand hx hb dX4_loneOf_42 ?_
    cases hf
    exact W.iret hx hb hr (fun t ht hW => ⟨rfl, ht⟩) (fun _ h => absurd h List.not_mem_nil) dX4_loneOf_43
  · have hf := pf_t hc hf
    refine lv_iconst (v := (0 : Int32)) hx hb dX4_loneOf_8 (by decide) ?_
    cases hf
    exact W.iret hx hb hr (fun t ht hW => ⟨rfl, ht⟩) (fun _ h => absurd h List.not_mem_nil) dX4_loneOf_9
abbrev WX4_isUnbroken (cI cJ cZ cB : ClassId) (a_o : Nat) (a_o_prices : Nat) (a_o_seats : Nat) (a_o_joined : Nat) (a_o_views : Nat) (v_o_rows : Int32) (v_o_awaited : Int32) (d_o_joined : (Nat → Int32)) : va_W := [(a_o, .inr (4, [.ref a_o_prices, .ref a_o_seats, .ref a_o_joined, .ref a_o_views, .int v_o_rows, .int v_o_awaited])), (a_o_joined, .inl (cI, (4, .inl d_o_joined)))]
set_option maxRecDepth 20000 in
theorem iX4_isUnbroken_X4 : ∀ w ∈ wsX40, w ∈ wsX4_isUnbroken := by decide +kernel
def fX4_isUnbroken (v_o_rows : Int32) (d_o_joined : (Nat → Int32)) (x1 : Int32) (x2 : Int32) (x3 : Int32) : Option (Int32) := ((fX8_span x2 (x3 - (1 : Int32))).bind fun q1 => ((fX4_hasRow v_o_rows x1).bind fun q3 => (if q3 = 0 then some (0 : Int32) else (if x1 < 0 ∨ 4 ≤ (x1).toNatClampNeg then none else (if ((d_o_joined (x1).toNatClampNeg) &&& q1) = q1 then some (1 : Int32) else some (0 : Int32))))))
set_option maxRecDepth 100000 in
set_option maxHeartbeats 4000000 in
theorem kX4_isUnbroken (l : Launch) (D : va_G) (cI cJ cZ cB : ClassId) (a_o : Nat) (a_o_prices : Nat) (a_o_seats : Nat) (a_o_joined : Nat) (a_o_views : Nat) (v_o_rows : Int32) (v_o_awaited : Int32) (d_o_joined : (Nat → Int32)) (x1 : Int32) (x2 : Int32) (x3 : Int32) (res : Int32) (hf : fX4_isUnbroken v_o_rows d_o_joined x1 x2 x3 = some res) : Ro l yX4_isUnbroken wsX4_isUnbroken ({ frames := 1, cells := 0, slots := 0, locals := 21 } : Room) D (tyL cI cJ cZ cB) [.ref a_o, .int x1, .int x2, .int x3] (WX4_isUnbroken cI cJ cZ cB a_o a_o_prices a_o_seats a_o_joined a_o_views v_o_rows v_o_awaited d_o_joined) (some (.int res)) := by
  refine Ro.of (cc := cX4_isUnbroken) (maxL := 5) (ret := (some .boolean)) (own := RX4) (by decide) rfl rfl (Nat.le_of_ble_eq_true rfl) ?_
  intro p e s m below meth c ls C hK hP hl
  obtain ⟨hx, hb, hr, hml, hts, hown, hlk⟩ := id C
  have hl : lv_has ls 5 [(0, .ref a_o), (1, .int x1), (2, .int x2), (3, .int x3)] := hl
  unfold fX4_isUnbroken at hf
  refine lv_iload_n hx hb dX4_isUnbroken_0 rfl (lv_at hl 2 rfl) ?_
  refine lv_iload_n hx hb dX4_isUnbroken_1 rfl (lv_at hl 3 rfl) ?_
  refine lv_iconst (v := (1 : Int32)) hx hb dX4_isUnbroken_2 (by decide) ?_
  refine lv_isub hx hb dX4_isUnbroken_3 ?_
  obtain ⟨q1, hq2, hf⟩ := pf_b hf
  have hPc := hP.sub (ws' := ([] : va_W)) [] rfl
  refine cl_roi (va_runSN (As := [.int x2, .int (x3 - (1 : Int32))]) (rest := []) ⟨hx, hb, hml, hown, hts⟩ (kX8_span l D cI cJ cZ cB x2 (x3 - (1 : Int32)) q1 hq2) ⟨va_cnB 2 hts gX4_isUnbroken_X8_span_n79 rfl rfl rfl (hK.2.at 11 rfl) (hts (.initialized RX8) (by decide +kernel)) (by decide +kernel) ⟨Nat.le_of_ble_eq_true rfl, Nat.le_of_ble_eq_true rfl⟩, hts (.static yX8_span) (by decide +kernel), trivial⟩ ⟨PRo.blind, PRo.at hK hPc⟩ rfl rfl hl.1 rfl (lv_room (Nat.le_of_ble_eq_true rfl)) dX4_isUnbroken_4 ⟨Nat.zero_le _, Nat.zero_le _⟩) ?_
  refine lv_istore (lv' := [(4, .int q1), (0, .ref a_o), (1, .int x1), (2, .int x2), (3, .int x3)]) hx hb dX4_isUnbroken_7 hl (by decide) rfl (fun ls hl => ?_)
  refine lv_aload_n hx hb dX4_isUnbroken_9 rfl (lv_at hl 1 rfl) ?_
  refine lv_iload_n hx hb dX4_isUnbroken_10 rfl (lv_at hl 2 rfl) ?_
  obtain ⟨q3, hq4, hf⟩ := pf_b hf
  have hPc := hP.sub (ws' := (WX4_hasRow cI cJ cZ cB a_o a_o_prices a_o_seats a_o_joined a_o_views v_o_rows v_o_awaited)) [0] rfl
  refine cl_roi (va_runV (As := [.int x1]) (rest := []) ⟨hx, hb, hml, hown, hts⟩ (kX4_hasRow l D cI cJ cZ cB a_o a_o_prices a_o_seats a_o_joined a_o_views v_o_rows v_o_awaited x1 q3 hq4) (cwV 1 hts gX4_isUnbroken_X4_hasRow rfl rfl rfl (by decide +kernel) ⟨Nat.le_of_ble_eq_true rfl, Nat.le_of_ble_eq_true rfl⟩) ⟨PRo.blind, va_recv hK.1 hPc (ci := 4) (q0 := 0) rfl rfl, PRo.at hK hPc⟩ rfl rfl hl.1 rfl (lv_room (Nat.le_of_ble_eq_true rfl)) dX4_isUnbroken_11 ⟨Nat.zero_le _, Nat.zero_le _⟩) ?_
  refine lv_if_eq (tgt := 35) hx hb dX4_isUnbroken_14 (by decide) (fun hc => ?_) (fun hc => ?_)
  · have hf := pf_t hc hf
    refine lv_iconst (v := (0 : Int32)) hx hb dX4_isUnbroken_35 (by decide) ?_
    cases hf
    exact W.zret hx hb hr (nar_b (by decide)) (fun t ht hW => ⟨rfl, ht⟩) (fun _ h => absurd h List.not_mem_nil) dX4_isUnbroken_36
  · have hf := pf_f hc hf
    refine lv_aload_n hx hb dX4_isUnbroken_17 rfl (lv_at hl 1 rfl) ?_
    refine va_get (D := D) (ci := 4) (v := .ref a_o_joined) (C := RX4) (T := TX4) (N := 6) hx hb hts iX4_isUnbroken_X4 hown hK.1 hP 0 rfl rfl 2 (by decide) (hts (.fieldLink RX4 18 "LoneSeats$Plan" "joined" "[I") (by decide +kernel)) (fun _ h9 => h9) rfl dX4_isUnbroken_18 ?_
    refine lv_iload_n hx hb dX4_isUnbroken_21 rfl (lv_at hl 2 rfl) ?_
    obtain ⟨hg5, hf⟩ := pf_x hf
    refine va_iald hx hb hK.1 hP 1 0 rfl rfl hg5 dX4_isUnbroken_22 ?_
    refine lv_iload hx hb dX4_isUnbroken_23 (lv_at hl 0 rfl) ?_
    refine lv_iand hx hb dX4_isUnbroken_25 ?_
    refine lv_iload hx hb dX4_isUnbroken_26 (lv_at hl 0 rfl) ?_
    refine lv_icmp_ne (tgt := 35) hx hb dX4_isUnbroken_28 (by decide) (fun hc => ?_) (fun hc => ?_)
    · have hf := pf_f hc hf
      refine lv_iconst (v := (0 : Int32)) hx hb dX4_isUnbroken_35 (by decide) ?_
      cases hf
      exact W.zret hx hb hr (nar_b (by decide)) (fun t ht hW => ⟨rfl, ht⟩) (fun _ h => absurd h List.not_mem_nil) dX4_isUnbroken_36
    · have hf := pf_t hc hf
      refine lv_iconst (v := (1 : Int32)) hx hb dX4_isUnbroken_31 (by decide) ?_
      refine lv_goto (tgt := 36) hx hb dX4_isUnbroken_32 (by decide) ?_
      cases hf
      exact W.zret hx hb hr (nar_b (by decide)) (fun t ht hW => ⟨rfl, ht⟩) (fun _ h => absurd h List.not_mem_nil) dX4_isUnbroken_36
abbrev WX4_qualityOf (cI cJ cZ cB : ClassId) (a_o : Nat) (a_o_prices : Nat) (a_o_seats : Nat) (a_o_joined : Nat) (a_o_views : Nat) (v_o_rows : Int32) (v_o_awaited : Int32) (d_o_views : (Nat → Int32)) : va_W := [(a_o, .inr (4, [.ref a_o_prices, .ref a_o_seats, .ref a_o_joined, .ref a_o_views, .int v_o_rows, .int v_o_awaited])), (a_o_views, .inl (cI, (36, .inl d_o_views)))]
set_option maxRecDepth 20000 in
theorem iX4_qualityOf_X4 : ∀ w ∈ wsX40, w ∈ wsX4_qualityOf := by decide +kernel
def fX4_qualityOf_20 : Nat → (Nat → Int32) → Int32 → Int32 → Int32 → Int32 → Option (Int32)
  | 0, _, _, _, _, _ => none
  | n + 1, d_o_views, x2, x3, x4, x5 => (if (x4 + x2) ≤ x5 then some x3 else (if x5 < 0 then fX4_qualityOf_20 n d_o_views x2 (x3 + (0 : Int32)) x4 (x5 + (1 : Int32)) else (if (36 : Int32) ≤ x5 then fX4_qualityOf_20 n d_o_views x2 (x3 + (0 : Int32)) x4 (x5 + (1 : Int32)) else (if x5 < 0 ∨ 36 ≤ (x5).toNatClampNeg then none else fX4_qualityOf_20 n d_o_views x2 (x3 + (d_o_views (x5).toNatClampNeg)) x4 (x5 + (1 : Int32))))))
set_option maxRecDepth 100000 in
set_option maxHeartbeats 4000000 in
theorem tX4_qualityOf_20 {p : Program} {l : Launch} {e : Env} {s : State} {m : MethodId} {args : Array Value} {below : List Frame} {meth : Method} {c : Code} {D : va_G} {cI cJ cZ cB : ClassId} {a_o : Nat} {a_o_prices : Nat} {a_o_seats : Nat} {a_o_joined : Nat} {a_o_views : Nat} (C : Cx p s m args meth c cX4_qualityOf 6 (some .int) wsX4_qualityOf RX4) (hK : Kw D (tyL cI cJ cZ cB) s) : ∀ (n : Nat), ∀ (v_o_rows : Int32) (v_o_awaited : Int32) (d_o_views : (Nat → Int32)) (x2 : Int32) (x3 : Int32) (x4 : Int32) (x5 : Int32) (ls : Array Slot) (res : Int32), va_P D vwCl (WX4_qualityOf cI cJ cZ cB a_o a_o_prices a_o_seats a_o_joined a_o_views v_o_rows v_o_awaited d_o_views) s.heap → lv_has ls 6 [(0, .ref a_o), (2, .int x2), (3, .int x3), (4, .int x4), (5, .int x5)] → fX4_qualityOf_20 n d_o_views x2 x3 x4 x5 = some res → W p l e ({ frames := 1, cells := 0, slots := 0, locals := 20 } : Room) s m args below meth c s.heap [] 0 0 (MQ below (QRo (some (.int res))) args s 0 0 (fun _ => False)) (F0 m 20 ls []) := by
  obtain ⟨hx, hb, hr, hml, hts, hown, hlk⟩ := id C
  intro n
  induction n with
  | zero =>
    intro v_o_rows v_o_awaited d_o_views x2 x3 x4 x5 ls res hP hl hf
    rw [fX4_qualityOf_20] at hf
    cases hf
  | succ n ih =>
    intro v_o_rows v_o_awaited d_o_views x2 x3 x4 x5 ls res hP hl hf
    rw [fX4_qualityOf_20] at hf
    refine lv_iload hx hb dX4_qualityOf_20 (lv_at hl 4 rfl) ?_
    refine lv_iload hx hb dX4_qualityOf_22 (lv_at hl 3 rfl) ?_
    refine lv_iload_n hx hb dX4_qualityOf_24 rfl (lv_at hl 1 rfl) ?_
    refine lv_iadd hx hb dX4_qualityOf_25 ?_
    refine lv_icmp_ge (tgt := 61) hx hb dX4_qualityOf_26 (by decide) (fun hc => ?_) (fun hc => ?_)
    · have hf := pf_t hc hf
      refine lv_iload_n hx hb dX4_qualityOf_61 rfl (lv_at hl 2 rfl) ?_
      cases hf
      exact W.iret hx hb hr (fun t ht hW => ⟨rfl, ht⟩) (fun _ h => absurd h List.not_mem_nil) dX4_qualityOf_62
    · have hf := pf_f hc hf
      refine lv_iload_n hx hb dX4_qualityOf_29 rfl (lv_at hl 2 rfl) ?_
      refine lv_iload hx hb dX4_qualityOf_30 (lv_at hl 4 rfl) ?_
      refine lv_if_lt (tgt := 52) hx hb dX4_qualityOf_32 (by decide) (fun hc => ?_) (fun hc => ?_)
      · have hf := pf_t hc hf
        refine lv_iconst (v := (0 : Int32)) hx hb dX4_qualityOf_52 (by decide) ?_
        refine lv_iadd hx hb dX4_qualityOf_53 ?_
        refine lv_istore_n (lv' := [(3, .int (x3 + (0 : Int32))), (0, .ref a_o), (2, .int x2), (4, .int x4), (5, .int x5)]) hx hb dX4_qualityOf_54 rfl hl (by decide) rfl (fun ls hl => ?_)
        refine lv_iinc (v := (x5 + (1 : Int32))) (lv' := [(5, .int (x5 + (1 : Int32))), (3, .int (x3 + (0 : Int32))), (0, .ref a_o), (2, .int x2), (4, .int x4)]) hx hb dX4_qualityOf_55 hl (k := 4) rfl rfl (by decide) rfl (fun ls hl => ?_)
        refine lv_goto (tgt := 20) hx hb dX4_qualityOf_58 (by decide) ?_
        exact ih v_o_rows v_o_awaited d_o_views x2 (x3 + (0 : Int32)) x4 (x5 + (1 : Int32)) ls _ hP (lv_sub hl [2, 3, 1, 4, 0] rfl) hf
      · have hf := pf_f hc hf
        refine lv_iload hx hb dX4_qualityOf_35 (lv_at hl 4 rfl) ?_
        refine lv_bipush (v := (36 : Int32)) hx hb dX4_qualityOf_37 (by decide) ?_
        refine lv_icmp_ge (tgt := 52) hx hb dX4_qualityOf_39 (by decide) (fun hc => ?_) (fun hc => ?_)
        · have hf := pf_t hc hf
          refine lv_iconst (v := (0 : Int32)) hx hb dX4_qualityOf_52 (by decide) ?_
          refine lv_iadd hx hb dX4_qualityOf_53 ?_
          refine lv_istore_n (lv' := [(3, .int (x3 + (0 : Int32))), (0, .ref a_o), (2, .int x2), (4, .int x4), (5, .int x5)]) hx hb dX4_qualityOf_54 rfl hl (by decide) rfl (fun ls hl => ?_)
          refine lv_iinc (v := (x5 + (1 : Int32))) (lv' := [(5, .int (x5 + (1 : Int32))), (3, .int (x3 + (0 : Int32))), (0, .ref a_o), (2, .int x2), (4, .int x4)]) hx hb dX4_qualityOf_55 hl (k := 4) rfl rfl (by decide) rfl (fun ls hl => ?_)
          refine lv_goto (tgt := 20) hx hb dX4_qualityOf_58 (by decide) ?_
          exact ih v_o_rows v_o_awaited d_o_views x2 (x3 + (0 : Int32)) x4 (x5 + (1 : Int32)) ls _ hP (lv_sub hl [2, 3, 1, 4, 0] rfl) hf
        · have hf := pf_f hc hf
          refine lv_aload_n hx hb dX4_qualityOf_42 rfl (lv_at hl 0 rfl) ?_
          refine va_get (D := D) (ci := 4) (v := .ref a_o_views) (C := RX4) (T := TX4) (N := 6) hx hb hts iX4_qualityOf_X4 hown hK.1 hP 0 rfl rfl 3 (by decide) (hts (.fieldLink RX4 21 "LoneSeats$Plan" "views" "[I") (by decide +kernel)) (fun _ h9 => h9) rfl dX4_qualityOf_43 ?_
          refine lv_iload hx hb dX4_qualityOf_46 (lv_at hl 4 rfl) ?_
          obtain ⟨hg1, hf⟩ := pf_x hf
          refine va_iald hx hb hK.1 hP 1 0 rfl rfl hg1 dX4_qualityOf_48 ?_
          refine lv_goto (tgt := 53) hx hb dX4_qualityOf_49 (by decide) ?_
          refine lv_iadd hx hb dX4_qualityOf_53 ?_
          refine lv_istore_n (lv' := [(3, .int (x3 + (d_o_views (x5).toNatClampNeg))), (0, .ref a_o), (2, .int x2), (4, .int x4), (5, .int x5)]) hx hb dX4_qualityOf_54 rfl hl (by decide) rfl (fun ls hl => ?_)
          refine lv_iinc (v := (x5 + (1 : Int32))) (lv' := [(5, .int (x5 + (1 : Int32))), (3, .int (x3 + (d_o_views (x5).toNatClampNeg))), (0, .ref a_o), (2, .int x2), (4, .int x4)]) hx hb dX4_qualityOf_55 hl (k := 4) rfl rfl (by decide) rfl (fun ls hl => ?_)
          refine lv_goto (tgt := 20) hx hb dX4_qualityOf_58 (by decide) ?_
          exact ih v_o_rows v_o_awaited d_o_views x2 (x3 + (d_o_views (x5).toNatClampNeg)) x4 (x5 + (1 : Int32)) ls _ hP (lv_sub hl [2, 3, 1, 4, 0] rfl) hf
def fX4_qualityOf (d_o_views : (Nat → Int32)) (x1 : Int32) (x2 : Int32) : Option (Int32) := ((fX8_rowOf x1).bind fun q1 => ((fX8_firstOf x1).bind fun q3 => fX4_qualityOf_20 FU d_o_views x2 (0 : Int32) ((q1 * (9 : Int32)) + q3) ((q1 * (9 : Int32)) + q3)))
set_option maxRecDepth 100000 in
set_option maxHeartbeats 4000000 in
theorem kX4_qualityOf (l : Launch) (D : va_G) (cI cJ cZ cB : ClassId) (a_o : Nat) (a_o_prices : Nat) (a_o_seats : Nat) (a_o_joined : Nat) (a_o_views : Nat) (v_o_rows : Int32) (v_o_awaited : Int32) (d_o_views : (Nat → Int32)) (x1 : Int32) (x2 : Int32) (res : Int32) (hf : fX4_qualityOf d_o_views x1 x2 = some res) : Ro l yX4_qualityOf wsX4_qualityOf ({ frames := 1, cells := 0, slots := 0, locals := 20 } : Room) D (tyL cI cJ cZ cB) [.ref a_o, .int x1, .int x2] (WX4_qualityOf cI cJ cZ cB a_o a_o_prices a_o_seats a_o_joined a_o_views v_o_rows v_o_awaited d_o_views) (some (.int res)) := by
  refine Ro.of (cc := cX4_qualityOf) (maxL := 6) (ret := (some .int)) (own := RX4) (by decide) rfl rfl (Nat.le_of_ble_eq_true rfl) ?_
  intro p e s m below meth c ls C hK hP hl
  obtain ⟨hx, hb, hr, hml, hts, hown, hlk⟩ := id C
  have hl : lv_has ls 6 [(0, .ref a_o), (1, .int x1), (2, .int x2)] := hl
  unfold fX4_qualityOf at hf
  refine lv_iconst (v := (0 : Int32)) hx hb dX4_qualityOf_0 (by decide) ?_
  refine lv_istore_n (lv' := [(3, .int (0 : Int32)), (0, .ref a_o), (1, .int x1), (2, .int x2)]) hx hb dX4_qualityOf_1 rfl hl (by decide) rfl (fun ls hl => ?_)
  refine lv_iload_n hx hb dX4_qualityOf_2 rfl (lv_at hl 2 rfl) ?_
  obtain ⟨q1, hq2, hf⟩ := pf_b hf
  have hPc := hP.sub (ws' := ([] : va_W)) [] rfl
  refine cl_roi (va_runSN (As := [.int x1]) (rest := []) ⟨hx, hb, hml, hown, hts⟩ (kX8_rowOf l D cI cJ cZ cB x1 q1 hq2) ⟨va_cnB 1 hts gX4_qualityOf_X8_rowOf_n91 rfl rfl rfl (hK.2.at 13 rfl) (hts (.initialized RX8) (by decide +kernel)) (by decide +kernel) ⟨Nat.le_of_ble_eq_true rfl, Nat.le_of_ble_eq_true rfl⟩, hts (.static yX8_rowOf) (by decide +kernel), trivial⟩ ⟨PRo.blind, PRo.at hK hPc⟩ rfl rfl hl.1 rfl (lv_room (Nat.le_of_ble_eq_true rfl)) dX4_qualityOf_3 ⟨Nat.zero_le _, Nat.zero_le _⟩) ?_
  refine lv_bipush (v := (9 : Int32)) hx hb dX4_qualityOf_6 (by decide) ?_
  refine lv_imul hx hb dX4_qualityOf_8 ?_
  refine lv_iload_n hx hb dX4_qualityOf_9 rfl (lv_at hl 2 rfl) ?_
  obtain ⟨q3, hq4, hf⟩ := pf_b hf
  have hPc := hP.sub (ws' := ([] : va_W)) [] rfl
  refine cl_roi (va_runSN (As := [.int x1]) (rest := [.int (q1 * (9 : Int32))]) ⟨hx, hb, hml, hown, hts⟩ (kX8_firstOf l D cI cJ cZ cB x1 q3 hq4) ⟨va_cnB 1 hts gX4_qualityOf_X8_firstOf_n94 rfl rfl rfl (hK.2.at 14 rfl) (hts (.initialized RX8) (by decide +kernel)) (by decide +kernel) ⟨Nat.le_of_ble_eq_true rfl, Nat.le_of_ble_eq_true rfl⟩, hts (.static yX8_firstOf) (by decide +kernel), trivial⟩ ⟨PRo.blind, PRo.at hK hPc⟩ rfl rfl hl.1 rfl (lv_room (Nat.le_of_ble_eq_true rfl)) dX4_qualityOf_10 ⟨Nat.zero_le _, Nat.zero_le _⟩) ?_
  refine lv_iadd hx hb dX4_qualityOf_13 ?_
  refine lv_istore (lv' := [(4, .int ((q1 * (9 : Int32)) + q3)), (3, .int (0 : Int32)), (0, .ref a_o), (1, .int x1), (2, .int x2)]) hx hb dX4_qualityOf_14 hl (by decide) rfl (fun ls hl => ?_)
  refine lv_iload hx hb dX4_qualityOf_16 (lv_at hl 0 rfl) ?_
  refine lv_istore (lv' := [(5, .int ((q1 * (9 : Int32)) + q3)), (4, .int ((q1 * (9 : Int32)) + q3)), (3, .int (0 : Int32)), (0, .ref a_o), (1, .int x1), (2, .int x2)]) hx hb dX4_qualityOf_18 hl (by decide) rfl (fun ls hl => ?_)
  exact tX4_qualityOf_20 C hK  FU v_o_rows v_o_awaited d_o_views x2 (0 : Int32) ((q1 * (9 : Int32)) + q3) ((q1 * (9 : Int32)) + q3) ls _ hP (lv_sub hl [3, 5, 2, 1, 0] rfl) hf
abbrev WX1_consider (cI cJ cZ cB : ClassId) (a_o : Nat) (v_o_places : Int32) (v_o_place : Int32) (v_o_quality : Int32) (v_o_price : Int32) : va_W := [(a_o, .inr (1, [.int v_o_places, .int v_o_place, .int v_o_quality, .int v_o_price]))]
set_option maxRecDepth 20000 in
theorem iX1_consider_X1 : ∀ w ∈ wsX10, w ∈ wsX1_consider := by decide +kernel
def fX1_consider_43 (v_o_places : Int32) (v_o_place : Int32) (v_o_quality : Int32) (v_o_price : Int32) (x1 : Int32) (x2 : Int32) (x3 : Int32) : Option (Int32 × Int32 × Int32 × Int32) := some (v_o_places, x1, x2, x3)
set_option maxRecDepth 100000 in
set_option maxHeartbeats 4000000 in
theorem tX1_consider_43 {p : Program} {l : Launch} {e : Env} {s : State} {m : MethodId} {args : Array Value} {below : List Frame} {meth : Method} {c : Code} {D : va_G} {cI cJ cZ cB : ClassId} {a_o : Nat} {A : Nat → Prop} (C : Cx p s m args meth c cX1_consider 4 none wsX1_consider RX1) (hK : Kw D (tyL cI cJ cZ cB) s) (hA : ∀ q : Nat, s.heap.size ≤ q → A q) : ∀ (v_o_places : Int32) (v_o_place : Int32) (v_o_quality : Int32) (v_o_price : Int32) (x1 : Int32) (x2 : Int32) (x3 : Int32) (H : Heap) (locs : List Loc) (ls : Array Slot) (res : Int32 × Int32 × Int32 × Int32), va_P D vwCl (WX1_consider cI cJ cZ cB a_o v_o_places v_o_place v_o_quality v_o_price) H → va_D A (WX1_consider cI cJ cZ cB a_o v_o_places v_o_place v_o_quality v_o_price) → va_S A s.heap H locs → lv_has ls 4 [(0, .ref a_o), (1, .int x1), (2, .int x2), (3, .int x3)] → fX1_consider_43 v_o_places v_o_place v_o_quality v_o_price x1 x2 x3 = some res → W p l e ({ frames := 0, cells := 0, slots := 0, locals := 0 } : Room) s m args below meth c H locs 0 0 (MQ below (QRw D A (WX1_consider cI cJ cZ cB a_o res.1 res.2.1 res.2.2.1 res.2.2.2) none) args s 0 0 A) (F0 m 43 ls []) := by
  obtain ⟨hx, hb, hr, hml, hts, hown, hlk⟩ := id C
  intro v_o_places v_o_place v_o_quality v_o_price x1 x2 x3 H locs ls res hP hD hS hl hf
  unfold fX1_consider_43 at hf
  refine lv_aload_n hx hb dX1_consider_43 rfl (lv_at hl 0 rfl) ?_
  refine lv_iload_n hx hb dX1_consider_44 rfl (lv_at hl 1 rfl) ?_
  refine va_put (D := D) (ci := 1) (v := .int x1) (ty := .int) (C := RX1) (T := TX1) (N := 4) hx hb hts iX1_consider_X1 tyX1 tyX1_ok nmX1 hown hK.1 hP hD hS 0 rfl rfl 1 (by decide) (hts (.fieldLink RX1 18 "LoneSeats$Finder" "place" "I") (by decide +kernel)) (fun _ h9 => h9) rfl (by decide +kernel) rfl rfl (Nat.le_of_ble_eq_true rfl) dX1_consider_45 (fun H locs hP hD hS => ?_)
  have hP : va_P D vwCl (WX1_consider cI cJ cZ cB a_o v_o_places x1 v_o_quality v_o_price) H := hP
  have hD : va_D A (WX1_consider cI cJ cZ cB a_o v_o_places x1 v_o_quality v_o_price) := hD
  refine lv_aload_n hx hb dX1_consider_48 rfl (lv_at hl 0 rfl) ?_
  refine lv_iload_n hx hb dX1_consider_49 rfl (lv_at hl 2 rfl) ?_
  refine va_put (D := D) (ci := 1) (v := .int x2) (ty := .int) (C := RX1) (T := TX1) (N := 4) hx hb hts iX1_consider_X1 tyX1 tyX1_ok nmX1 hown hK.1 hP hD hS 0 rfl rfl 2 (by decide) (hts (.fieldLink RX1 15 "LoneSeats$Finder" "quality" "I") (by decide +kernel)) (fun _ h9 => h9) rfl (by decide +kernel) rfl rfl (Nat.le_of_ble_eq_true rfl) dX1_consider_50 (fun H locs hP hD hS => ?_)
  have hP : va_P D vwCl (WX1_consider cI cJ cZ cB a_o v_o_places x1 x2 v_o_price) H := hP
  have hD : va_D A (WX1_consider cI cJ cZ cB a_o v_o_places x1 x2 v_o_price) := hD
  refine lv_aload_n hx hb dX1_consider_53 rfl (lv_at hl 0 rfl) ?_
  refine lv_iload_n hx hb dX1_consider_54 rfl (lv_at hl 3 rfl) ?_
  refine va_put (D := D) (ci := 1) (v := .int x3) (ty := .int) (C := RX1) (T := TX1) (N := 4) hx hb hts iX1_consider_X1 tyX1 tyX1_ok nmX1 hown hK.1 hP hD hS 0 rfl rfl 3 (by decide) (hts (.fieldLink RX1 21 "LoneSeats$Finder" "price" "I") (by decide +kernel)) (fun _ h9 => h9) rfl (by decide +kernel) rfl rfl (Nat.le_of_ble_eq_true rfl) dX1_consider_55 (fun H locs hP hD hS => ?_)
  have hP : va_P D vwCl (WX1_consider cI cJ cZ cB a_o v_o_places x1 x2 x3) H := hP
  have hD : va_D A (WX1_consider cI cJ cZ cB a_o v_o_places x1 x2 x3) := hD
  cases hf
  exact W.vret hx hb hr (fun t ht hW => ⟨⟨rfl, by rw [ht]; exact hP, hD⟩, hS.F ht⟩) hS.2.2 dX1_consider_58
def fX1_consider (v_o_places : Int32) (v_o_place : Int32) (v_o_quality : Int32) (v_o_price : Int32) (x1 : Int32) (x2 : Int32) (x3 : Int32) : Option (Int32 × Int32 × Int32 × Int32) := (if v_o_place = (-9 : Int32) then fX1_consider_43 (v_o_places + (1 : Int32)) v_o_place v_o_quality v_o_price x1 x2 x3 else (if v_o_quality < x2 then fX1_consider_43 (v_o_places + (1 : Int32)) v_o_place v_o_quality v_o_price x1 x2 x3 else (if x2 = v_o_quality then (if v_o_price ≤ x3 then some ((v_o_places + (1 : Int32)), v_o_place, v_o_quality, v_o_price) else fX1_consider_43 (v_o_places + (1 : Int32)) v_o_place v_o_quality v_o_price x1 x2 x3) else some ((v_o_places + (1 : Int32)), v_o_place, v_o_quality, v_o_price))))
set_option maxRecDepth 100000 in
set_option maxHeartbeats 4000000 in
theorem kX1_consider (l : Launch) (D : va_G) (cI cJ cZ cB : ClassId) (a_o : Nat) (v_o_places : Int32) (v_o_place : Int32) (v_o_quality : Int32) (v_o_price : Int32) (x1 : Int32) (x2 : Int32) (x3 : Int32) (res : Int32 × Int32 × Int32 × Int32) (hf : fX1_consider v_o_places v_o_place v_o_quality v_o_price x1 x2 x3 = some res) : Rw l yX1_consider wsX1_consider ({ frames := 0, cells := 0, slots := 0, locals := 0 } : Room) D (tyL cI cJ cZ cB) [.ref a_o, .int x1, .int x2, .int x3] (WX1_consider cI cJ cZ cB a_o v_o_places v_o_place v_o_quality v_o_price) none (WX1_consider cI cJ cZ cB a_o res.1 res.2.1 res.2.2.1 res.2.2.2) := by
  refine Rw.of (cc := cX1_consider) (maxL := 4) (ret := none) (own := RX1) (by decide) rfl rfl (Nat.le_of_ble_eq_true rfl) ?_
  intro p e s m below meth c A ls C hK hA hP hD hS hl
  obtain ⟨hx, hb, hr, hml, hts, hown, hlk⟩ := id C
  have hl : lv_has ls 4 [(0, .ref a_o), (1, .int x1), (2, .int x2), (3, .int x3)] := hl
  unfold fX1_consider at hf
  refine lv_aload_n hx hb dX1_consider_0 rfl (lv_at hl 0 rfl) ?_
  refine lv_dup hx hb dX1_consider_1 rfl ?_
  refine va_get (D := D) (ci := 1) (v := .int v_o_places) (C := RX1) (T := TX1) (N := 4) hx hb hts iX1_consider_X1 hown hK.1 hP 0 rfl rfl 0 (by decide) (hts (.fieldLink RX1 9 "LoneSeats$Finder" "places" "I") (by decide +kernel)) (fun _ h9 => h9) rfl dX1_consider_2 ?_
  refine lv_iconst (v := (1 : Int32)) hx hb dX1_consider_5 (by decide) ?_
  refine lv_iadd hx hb dX1_consider_6 ?_
  refine va_put (D := D) (ci := 1) (v := .int (v_o_places + (1 : Int32))) (ty := .int) (C := RX1) (T := TX1) (N := 4) hx hb hts iX1_consider_X1 tyX1 tyX1_ok nmX1 hown hK.1 hP hD hS 0 rfl rfl 0 (by decide) (hts (.fieldLink RX1 9 "LoneSeats$Finder" "places" "I") (by decide +kernel)) (fun _ h9 => h9) rfl (by decide +kernel) rfl rfl (Nat.le_of_ble_eq_true rfl) dX1_consider_7 (fun H locs hP hD hS => ?_)
  have hP : va_P D vwCl (WX1_consider cI cJ cZ cB a_o (v_o_places + (1 : Int32)) v_o_place v_o_quality v_o_price) H := hP
  have hD : va_D A (WX1_consider cI cJ cZ cB a_o (v_o_places + (1 : Int32)) v_o_place v_o_quality v_o_price) := hD
  refine lv_aload_n hx hb dX1_consider_10 rfl (lv_at hl 0 rfl) ?_
  refine va_get (D := D) (ci := 1) (v := .int v_o_place) (C := RX1) (T := TX1) (N := 4) hx hb hts iX1_consider_X1 hown hK.1 hP 0 rfl rfl 1 (by decide) (hts (.fieldLink RX1 18 "LoneSeats$Finder" "place" "I") (by decide +kernel)) (fun _ h9 => h9) rfl dX1_consider_11 ?_
  refine lv_bipush (v := (-9 : Int32)) hx hb dX1_consider_14 (by decide) ?_
  refine lv_icmp_eq (tgt := 43) hx hb dX1_consider_16 (by decide) (fun hc => ?_) (fun hc => ?_)
  · have hf := pf_t hc hf
    exact tX1_consider_43 C hK hA  (v_o_places + (1 : Int32)) v_o_place v_o_quality v_o_price x1 x2 x3 _ _ ls _ hP hD hS (lv_sub hl [0, 1, 2, 3] rfl) hf
  · have hf := pf_f hc hf
    refine lv_iload_n hx hb dX1_consider_19 rfl (lv_at hl 2 rfl) ?_
    refine lv_aload_n hx hb dX1_consider_20 rfl (lv_at hl 0 rfl) ?_
    refine va_get (D := D) (ci := 1) (v := .int v_o_quality) (C := RX1) (T := TX1) (N := 4) hx hb hts iX1_consider_X1 hown hK.1 hP 0 rfl rfl 2 (by decide) (hts (.fieldLink RX1 15 "LoneSeats$Finder" "quality" "I") (by decide +kernel)) (fun _ h9 => h9) rfl dX1_consider_21 ?_
    refine lv_icmp_gt (tgt := 43) hx hb dX1_consider_24 (by decide) (fun hc => ?_) (fun hc => ?_)
    · have hf := pf_t hc hf
      exact tX1_consider_43 C hK hA  (v_o_places + (1 : Int32)) v_o_place v_o_quality v_o_price x1 x2 x3 _ _ ls _ hP hD hS (lv_sub hl [0, 1, 2, 3] rfl) hf
    · have hf := pf_f hc hf
      refine lv_iload_n hx hb dX1_consider_27 rfl (lv_at hl 2 rfl) ?_
      refine lv_aload_n hx hb dX1_consider_28 rfl (lv_at hl 0 rfl) ?_
      refine va_get (D := D) (ci := 1) (v := .int v_o_quality) (C := RX1) (T := TX1) (N := 4) hx hb hts iX1_consider_X1 hown hK.1 hP 0 rfl rfl 2 (by decide) (hts (.fieldLink RX1 15 "LoneSeats$Finder" "quality" "I") (by decide +kernel)) (fun _ h9 => h9) rfl dX1_consider_29 ?_
      refine lv_icmp_ne (tgt := 58) hx hb dX1_consider_32 (by decide) (fun hc => ?_) (fun hc => ?_)
      · have hf := pf_f hc hf
        cases hf
        exact W.vret hx hb hr (fun t ht hW => ⟨⟨rfl, by rw [ht]; exact hP, hD⟩, hS.F ht⟩) hS.2.2 dX1_consider_58
      · have hf := pf_t hc hf
        refine lv_iload_n hx hb dX1_consider_35 rfl (lv_at hl 3 rfl) ?_
        refine lv_aload_n hx hb dX1_consider_36 rfl (lv_at hl 0 rfl) ?_
        refine va_get (D := D) (ci := 1) (v := .int v_o_price) (C := RX1) (T := TX1) (N := 4) hx hb hts iX1_consider_X1 hown hK.1 hP 0 rfl rfl 3 (by decide) (hts (.fieldLink RX1 21 "LoneSeats$Finder" "price" "I") (by decide +kernel)) (fun _ h9 => h9) rfl dX1_consider_37 ?_
        refine lv_icmp_ge (tgt := 58) hx hb dX1_consider_40 (by decide) (fun hc => ?_) (fun hc => ?_)
        · have hf := pf_t hc hf
          cases hf
          exact W.vret hx hb hr (fun t ht hW => ⟨⟨rfl, by rw [ht]; exact hP, hD⟩, hS.F ht⟩) hS.2.2 dX1_consider_58
        · have hf := pf_f hc hf
          exact tX1_consider_43 C hK hA  (v_o_places + (1 : Int32)) v_o_place v_o_quality v_o_price x1 x2 x3 _ _ ls _ hP hD hS (lv_sub hl [0, 1, 2, 3] rfl) hf
abbrev WX1_lookInRow (cI cJ cZ cB : ClassId) (a_o : Nat) (a_p1 : Nat) (a_p1_prices : Nat) (a_p1_seats : Nat) (a_p1_joined : Nat) (a_p1_views : Nat) (a_p2 : Nat) (a_p2_prices : Nat) (a_p2_free : Nat) (a_p2_sizes : Nat) (a_p2_limits : Nat) (a_p2_places : Nat) (a_p2_paid : Nat) (a_p2_queue : Nat) (v_o_places : Int32) (v_o_place : Int32) (v_o_quality : Int32) (v_o_price : Int32) (v_p1_rows : Int32) (v_p1_awaited : Int32) (d_p1_seats : (Nat → Int32)) (d_p1_joined : (Nat → Int32)) (d_p1_views : (Nat → Int32)) (v_p2_asked : Int32) (v_p2_waiting : Int32) (v_p2_fee : Int32) (v_p2_takings : Int32) (d_p2_prices : (Nat → Int32)) (d_p2_free : (Nat → Int32)) : va_W := [(a_o, .inr (1, [.int v_o_places, .int v_o_place, .int v_o_quality, .int v_o_price])), (a_p1, .inr (4, [.ref a_p1_prices, .ref a_p1_seats, .ref a_p1_joined, .ref a_p1_views, .int v_p1_rows, .int v_p1_awaited])), (a_p1_seats, .inl (cI, (4, .inl d_p1_seats))), (a_p1_joined, .inl (cI, (4, .inl d_p1_joined))), (a_p1_views, .inl (cI, (36, .inl d_p1_views))), (a_p2, .inr (0, [.ref a_p2_prices, .ref a_p2_free, .ref a_p2_sizes, .ref a_p2_limits, .ref a_p2_places, .ref a_p2_paid, .ref a_p2_queue, .int v_p2_asked, .int v_p2_waiting, .int v_p2_fee, .int v_p2_takings])), (a_p2_prices, .inl (cI, (4, .inl d_p2_prices))), (a_p2_free, .inl (cI, (4, .inl d_p2_free)))]
def fX1_lookInRow_25 : Nat → Int32 → Int32 → Int32 → Int32 → Int32 → (Nat → Int32) → (Nat → Int32) → (Nat → Int32) → (Nat → Int32) → (Nat → Int32) → Int32 → Int32 → Int32 → Int32 → Int32 → Option (Int32 × Int32 × Int32 × Int32)
  | 0, _, _, _, _, _, _, _, _, _, _, _, _, _, _, _ => none
  | n + 1, v_o_places, v_o_place, v_o_quality, v_o_price, v_p1_rows, d_p1_seats, d_p1_joined, d_p1_views, d_p2_prices, d_p2_free, x3, x4, x6, x7, x8 => ((fX4_seatsIn v_p1_rows d_p1_seats x3).bind fun q1 => (if q1 < (x8 + x4) then some (v_o_places, v_o_place, v_o_quality, v_o_price) else ((fX8_span x8 x4).bind fun q3 => (if (x6 &&& q3) = q3 then ((fX4_isUnbroken v_p1_rows d_p1_joined x3 x8 x4).bind fun q5 => (if q5 = 0 then fX1_lookInRow_25 n v_o_places v_o_place v_o_quality v_o_price v_p1_rows d_p1_seats d_p1_joined d_p1_views d_p2_prices d_p2_free x3 x4 x6 x7 (x8 + (1 : Int32)) else ((fX4_loneOf v_p1_rows d_p1_joined x3 (x6 &&& (q3 ^^^ (-1 : Int32)))).bind fun q7 => ((fJ6_bitCount_0f7a4 q7).bind fun q9 => (if x7 < q9 then fX1_lookInRow_25 n v_o_places v_o_place v_o_quality v_o_price v_p1_rows d_p1_seats d_p1_joined d_p1_views d_p2_prices d_p2_free x3 x4 x6 x7 (x8 + (1 : Int32)) else ((fX8_placeAt x3 x8).bind fun q11 => ((fX4_qualityOf d_p1_views q11 x4).bind fun q13 => ((fX0_priceOf d_p2_prices x3).bind fun q15 => ((fX1_consider v_o_places v_o_place v_o_quality v_o_price q11 q13 q15).bind fun q17 => fX1_lookInRow_25 n q17.1 q17.2.1 q17.2.2.1 q17.2.2.2 v_p1_rows d_p1_seats d_p1_joined d_p1_views d_p2_prices d_p2_free x3 x4 x6 x7 (x8 + (1 : Int32))))))))))) else fX1_lookInRow_25 n v_o_places v_o_place v_o_quality v_o_price v_p1_rows d_p1_seats d_p1_joined d_p1_views d_p2_prices d_p2_free x3 x4 x6 x7 (x8 + (1 : Int32))))))
set_option maxRecDepth 100000 in
set_option maxHeartbeats 4000000 in
theorem tX1_lookInRow_25 {p : Program} {l : Launch} {e : Env} {s : State} {m : MethodId} {args : Array Value} {below : List Frame} {meth : Method} {c : Code} {D : va_G} {cI cJ cZ cB : ClassId} {a_o : Nat} {a_p1 : Nat} {a_p1_prices : Nat} {a_p1_seats : Nat} {a_p1_joined : Nat} {a_p1_views : Nat} {a_p2 : Nat} {a_p2_prices : Nat} {a_p2_free : Nat} {a_p2_sizes : Nat} {a_p2_limits : Nat} {a_p2_places : Nat} {a_p2_paid : Nat} {a_p2_queue : Nat} {A : Nat → Prop} (C : Cx p s m args meth c cX1_lookInRow 11 none wsX1_lookInRow RX1) (hK : Kw D (tyL cI cJ cZ cB) s) (hA : ∀ q : Nat, s.heap.size ≤ q → A q) : ∀ (n : Nat), ∀ (v_o_places : Int32) (v_o_place : Int32) (v_o_quality : Int32) (v_o_price : Int32) (v_p1_rows : Int32) (v_p1_awaited : Int32) (d_p1_seats : (Nat → Int32)) (d_p1_joined : (Nat → Int32)) (d_p1_views : (Nat → Int32)) (v_p2_asked : Int32) (v_p2_waiting : Int32) (v_p2_fee : Int32) (v_p2_takings : Int32) (d_p2_prices : (Nat → Int32)) (d_p2_free : (Nat → Int32)) (x3 : Int32) (x4 : Int32) (x6 : Int32) (x7 : Int32) (x8 : Int32) (H : Heap) (locs : List Loc) (ls : Array Slot) (res : Int32 × Int32 × Int32 × Int32), va_P D vwCl (WX1_lookInRow cI cJ cZ cB a_o a_p1 a_p1_prices a_p1_seats a_p1_joined a_p1_views a_p2 a_p2_prices a_p2_free a_p2_sizes a_p2_limits a_p2_places a_p2_paid a_p2_queue v_o_places v_o_place v_o_quality v_o_price v_p1_rows v_p1_awaited d_p1_seats d_p1_joined d_p1_views v_p2_asked v_p2_waiting v_p2_fee v_p2_takings d_p2_prices d_p2_free) H → va_D A (WX1_lookInRow cI cJ cZ cB a_o a_p1 a_p1_prices a_p1_seats a_p1_joined a_p1_views a_p2 a_p2_prices a_p2_free a_p2_sizes a_p2_limits a_p2_places a_p2_paid a_p2_queue v_o_places v_o_place v_o_quality v_o_price v_p1_rows v_p1_awaited d_p1_seats d_p1_joined d_p1_views v_p2_asked v_p2_waiting v_p2_fee v_p2_takings d_p2_prices d_p2_free) → va_S A s.heap H locs → lv_has ls 11 [(0, .ref a_o), (1, .ref a_p1), (2, .ref a_p2), (3, .int x3), (4, .int x4), (6, .int x6), (7, .int x7), (8, .int x8)] → fX1_lookInRow_25 n v_o_places v_o_place v_o_quality v_o_price v_p1_rows d_p1_seats d_p1_joined d_p1_views d_p2_prices d_p2_free x3 x4 x6 x7 x8 = some res → W p l e ({ frames := 2, cells := 0, slots := 0, locals := 45 } : Room) s m args below meth c H locs 0 0 (MQ below (QRw D A (WX1_lookInRow cI cJ cZ cB a_o a_p1 a_p1_prices a_p1_seats a_p1_joined a_p1_views a_p2 a_p2_prices a_p2_free a_p2_sizes a_p2_limits a_p2_places a_p2_paid a_p2_queue res.1 res.2.1 res.2.2.1 res.2.2.2 v_p1_rows v_p1_awaited d_p1_seats d_p1_joined d_p1_views v_p2_asked v_p2_waiting v_p2_fee v_p2_takings d_p2_prices d_p2_free) none) args s 0 0 A) (F0 m 25 ls []) := by
  obtain ⟨hx, hb, hr, hml, hts, hown, hlk⟩ := id C
  intro n
  induction n with
  | zero =>
    intro v_o_places v_o_place v_o_quality v_o_price v_p1_rows v_p1_awaited d_p1_seats d_p1_joined d_p1_views v_p2_asked v_p2_waiting v_p2_fee v_p2_takings d_p2_prices d_p2_free x3 x4 x6 x7 x8 H locs ls res hP hD hS hl hf
    rw [fX1_lookInRow_25] at hf
    cases hf
  | succ n ih =>
    intro v_o_places v_o_place v_o_quality v_o_price v_p1_rows v_p1_awaited d_p1_seats d_p1_joined d_p1_views v_p2_asked v_p2_waiting v_p2_fee v_p2_takings d_p2_prices d_p2_free x3 x4 x6 x7 x8 H locs ls res hP hD hS hl hf
    rw [fX1_lookInRow_25] at hf
    refine lv_iload hx hb dX1_lookInRow_25 (lv_at hl 7 rfl) ?_
    refine lv_iload hx hb dX1_lookInRow_27 (lv_at hl 4 rfl) ?_
    refine lv_iadd hx hb dX1_lookInRow_29 ?_
    refine lv_aload_n hx hb dX1_lookInRow_30 rfl (lv_at hl 1 rfl) ?_
    refine lv_iload_n hx hb dX1_lookInRow_31 rfl (lv_at hl 3 rfl) ?_
    obtain ⟨q1, hq2, hf⟩ := pf_b hf
    have hPc := hP.sub (ws' := (WX4_seatsIn cI cJ cZ cB a_p1 a_p1_prices a_p1_seats a_p1_joined a_p1_views v_p1_rows v_p1_awaited d_p1_seats)) [1, 2] rfl
    refine cl_roi (va_runV (As := [.int x3]) (rest := [.int (x8 + x4)]) ⟨hx, hb, hml, hown, hts⟩ (kX4_seatsIn l D cI cJ cZ cB a_p1 a_p1_prices a_p1_seats a_p1_joined a_p1_views v_p1_rows v_p1_awaited d_p1_seats x3 q1 hq2) (cwV 1 hts gX1_lookInRow_X4_seatsIn rfl rfl rfl (by decide +kernel) ⟨Nat.le_of_ble_eq_true rfl, Nat.le_of_ble_eq_true rfl⟩) ⟨PRo.blind, va_recv hK.1 hPc (ci := 4) (q0 := 0) rfl rfl, PRo.at hK hPc⟩ rfl rfl hl.1 rfl (lv_room (Nat.le_of_ble_eq_true rfl)) dX1_lookInRow_32 ⟨Nat.zero_le _, Nat.zero_le _⟩) ?_
    refine lv_icmp_gt (tgt := 122) hx hb dX1_lookInRow_35 (by decide) (fun hc => ?_) (fun hc => ?_)
    · have hf := pf_t hc hf
      cases hf
      exact W.vret hx hb hr (fun t ht hW => ⟨⟨rfl, by rw [ht]; exact hP, hD⟩, hS.F ht⟩) hS.2.2 dX1_lookInRow_122
    · have hf := pf_f hc hf
      refine lv_iload hx hb dX1_lookInRow_38 (lv_at hl 7 rfl) ?_
      refine lv_iload hx hb dX1_lookInRow_40 (lv_at hl 4 rfl) ?_
      obtain ⟨q3, hq4, hf⟩ := pf_b hf
      have hPc := hP.sub (ws' := ([] : va_W)) [] rfl
      refine cl_roi (va_runSN (As := [.int x8, .int x4]) (rest := []) ⟨hx, hb, hml, hown, hts⟩ (kX8_span l D cI cJ cZ cB x8 x4 q3 hq4) ⟨va_cnB 2 hts gX1_lookInRow_X8_span_n55 rfl rfl rfl (hK.2.at 10 rfl) (hts (.initialized RX8) (by decide +kernel)) (by decide +kernel) ⟨Nat.le_of_ble_eq_true rfl, Nat.le_of_ble_eq_true rfl⟩, hts (.static yX8_span) (by decide +kernel), trivial⟩ ⟨PRo.blind, PRo.at hK hPc⟩ rfl rfl hl.1 rfl (lv_room (Nat.le_of_ble_eq_true rfl)) dX1_lookInRow_42 ⟨Nat.zero_le _, Nat.zero_le _⟩) ?_
      refine lv_istore (lv' := [(9, .int q3), (0, .ref a_o), (1, .ref a_p1), (2, .ref a_p2), (3, .int x3), (4, .int x4), (6, .int x6), (7, .int x7), (8, .int x8)]) hx hb dX1_lookInRow_45 hl (by decide) rfl (fun ls hl => ?_)
      refine lv_iload hx hb dX1_lookInRow_47 (lv_at hl 6 rfl) ?_
      refine lv_iload hx hb dX1_lookInRow_49 (lv_at hl 0 rfl) ?_
      refine lv_iand hx hb dX1_lookInRow_51 ?_
      refine lv_iload hx hb dX1_lookInRow_52 (lv_at hl 0 rfl) ?_
      refine lv_icmp_ne (tgt := 116) hx hb dX1_lookInRow_54 (by decide) (fun hc => ?_) (fun hc => ?_)
      · have hf := pf_f hc hf
        refine lv_iinc (v := (x8 + (1 : Int32))) (lv' := [(8, .int (x8 + (1 : Int32))), (9, .int q3), (0, .ref a_o), (1, .ref a_p1), (2, .ref a_p2), (3, .int x3), (4, .int x4), (6, .int x6), (7, .int x7)]) hx hb dX1_lookInRow_116 hl (k := 8) rfl rfl (by decide) rfl (fun ls hl => ?_)
        refine lv_goto (tgt := 25) hx hb dX1_lookInRow_119 (by decide) ?_
        exact ih v_o_places v_o_place v_o_quality v_o_price v_p1_rows v_p1_awaited d_p1_seats d_p1_joined d_p1_views v_p2_asked v_p2_waiting v_p2_fee v_p2_takings d_p2_prices d_p2_free x3 x4 x6 x7 (x8 + (1 : Int32)) _ _ ls _ hP hD hS (lv_sub hl [2, 3, 4, 5, 6, 7, 8, 0] rfl) hf
      · have hf := pf_t hc hf
        refine lv_aload_n hx hb dX1_lookInRow_57 rfl (lv_at hl 2 rfl) ?_
        refine lv_iload_n hx hb dX1_lookInRow_58 rfl (lv_at hl 4 rfl) ?_
        refine lv_iload hx hb dX1_lookInRow_59 (lv_at hl 8 rfl) ?_
        refine lv_iload hx hb dX1_lookInRow_61 (lv_at hl 5 rfl) ?_
        obtain ⟨q5, hq6, hf⟩ := pf_b hf
        have hPc := hP.sub (ws' := (WX4_isUnbroken cI cJ cZ cB a_p1 a_p1_prices a_p1_seats a_p1_joined a_p1_views v_p1_rows v_p1_awaited d_p1_joined)) [1, 3] rfl
        refine cl_roi (va_runV (As := [.int x3, .int x8, .int x4]) (rest := []) ⟨hx, hb, hml, hown, hts⟩ (kX4_isUnbroken l D cI cJ cZ cB a_p1 a_p1_prices a_p1_seats a_p1_joined a_p1_views v_p1_rows v_p1_awaited d_p1_joined x3 x8 x4 q5 hq6) (cwV 3 hts gX1_lookInRow_X4_isUnbroken rfl rfl rfl (by decide +kernel) ⟨Nat.le_of_ble_eq_true rfl, Nat.le_of_ble_eq_true rfl⟩) ⟨PRo.blind, va_recv hK.1 hPc (ci := 4) (q0 := 0) rfl rfl, PRo.at hK hPc⟩ rfl rfl hl.1 rfl (lv_room (Nat.le_of_ble_eq_true rfl)) dX1_lookInRow_63 ⟨Nat.zero_le _, Nat.zero_le _⟩) ?_
        refine lv_if_eq (tgt := 116) hx hb dX1_lookInRow_66 (by decide) (fun hc => ?_) (fun hc => ?_)
        · have hf := pf_t hc hf
          refine lv_iinc (v := (x8 + (1 : Int32))) (lv' := [(8, .int (x8 + (1 : Int32))), (9, .int q3), (0, .ref a_o), (1, .ref a_p1), (2, .ref a_p2), (3, .int x3), (4, .int x4), (6, .int x6), (7, .int x7)]) hx hb dX1_lookInRow_116 hl (k := 8) rfl rfl (by decide) rfl (fun ls hl => ?_)
          refine lv_goto (tgt := 25) hx hb dX1_lookInRow_119 (by decide) ?_
          exact ih v_o_places v_o_place v_o_quality v_o_price v_p1_rows v_p1_awaited d_p1_seats d_p1_joined d_p1_views v_p2_asked v_p2_waiting v_p2_fee v_p2_takings d_p2_prices d_p2_free x3 x4 x6 x7 (x8 + (1 : Int32)) _ _ ls _ hP hD hS (lv_sub hl [2, 3, 4, 5, 6, 7, 8, 0] rfl) hf
        · have hf := pf_f hc hf
          refine lv_aload_n hx hb dX1_lookInRow_69 rfl (lv_at hl 2 rfl) ?_
          refine lv_iload_n hx hb dX1_lookInRow_70 rfl (lv_at hl 4 rfl) ?_
          refine lv_iload hx hb dX1_lookInRow_71 (lv_at hl 6 rfl) ?_
          refine lv_iload hx hb dX1_lookInRow_73 (lv_at hl 0 rfl) ?_
          refine lv_iconst (v := (-1 : Int32)) hx hb dX1_lookInRow_75 (by decide) ?_
          refine lv_ixor hx hb dX1_lookInRow_76 ?_
          refine lv_iand hx hb dX1_lookInRow_77 ?_
          obtain ⟨q7, hq8, hf⟩ := pf_b hf
          have hPc := hP.sub (ws' := (WX4_loneOf cI cJ cZ cB a_p1 a_p1_prices a_p1_seats a_p1_joined a_p1_views v_p1_rows v_p1_awaited d_p1_joined)) [1, 3] rfl
          refine cl_roi (va_runV (As := [.int x3, .int (x6 &&& (q3 ^^^ (-1 : Int32)))]) (rest := []) ⟨hx, hb, hml, hown, hts⟩ (kX4_loneOf l D cI cJ cZ cB a_p1 a_p1_prices a_p1_seats a_p1_joined a_p1_views v_p1_rows v_p1_awaited d_p1_joined x3 (x6 &&& (q3 ^^^ (-1 : Int32))) q7 hq8) (cwV 2 hts gX1_lookInRow_X4_loneOf rfl rfl rfl (by decide +kernel) ⟨Nat.le_of_ble_eq_true rfl, Nat.le_of_ble_eq_true rfl⟩) ⟨PRo.blind, va_recv hK.1 hPc (ci := 4) (q0 := 0) rfl rfl, PRo.at hK hPc⟩ rfl rfl hl.1 rfl (lv_room (Nat.le_of_ble_eq_true rfl)) dX1_lookInRow_78 ⟨Nat.zero_le _, Nat.zero_le _⟩) ?_
          obtain ⟨q9, hq10, hf⟩ := pf_b hf
          have hPc := hP.sub (ws' := ([] : va_W)) [] rfl
          refine cl_roi (va_runS (As := [.int q7]) (rest := []) ⟨hx, hb, hml, hown, hts⟩ (kJ6_bitCount_0f7a4 l D cI cJ cZ cB q7 q9 hq10) (va_cwS 1 hts gX1_lookInRow_J6_bitCount_0f7a4 rfl rfl rfl (by decide +kernel) ⟨Nat.le_of_ble_eq_true rfl, Nat.le_of_ble_eq_true rfl⟩) ⟨PRo.blind, PRo.at hK hPc⟩ rfl rfl hl.1 rfl (lv_room (Nat.le_of_ble_eq_true rfl)) dX1_lookInRow_81 ⟨Nat.zero_le _, Nat.zero_le _⟩) ?_
          refine lv_iload hx hb dX1_lookInRow_84 (lv_at hl 7 rfl) ?_
          refine lv_icmp_gt (tgt := 116) hx hb dX1_lookInRow_86 (by decide) (fun hc => ?_) (fun hc => ?_)
          · have hf := pf_t hc hf
            refine lv_iinc (v := (x8 + (1 : Int32))) (lv' := [(8, .int (x8 + (1 : Int32))), (9, .int q3), (0, .ref a_o), (1, .ref a_p1), (2, .ref a_p2), (3, .int x3), (4, .int x4), (6, .int x6), (7, .int x7)]) hx hb dX1_lookInRow_116 hl (k := 8) rfl rfl (by decide) rfl (fun ls hl => ?_)
            refine lv_goto (tgt := 25) hx hb dX1_lookInRow_119 (by decide) ?_
            exact ih v_o_places v_o_place v_o_quality v_o_price v_p1_rows v_p1_awaited d_p1_seats d_p1_joined d_p1_views v_p2_asked v_p2_waiting v_p2_fee v_p2_takings d_p2_prices d_p2_free x3 x4 x6 x7 (x8 + (1 : Int32)) _ _ ls _ hP hD hS (lv_sub hl [2, 3, 4, 5, 6, 7, 8, 0] rfl) hf
          · have hf := pf_f hc hf
            refine lv_iload_n hx hb dX1_lookInRow_89 rfl (lv_at hl 4 rfl) ?_
            refine lv_iload hx hb dX1_lookInRow_90 (lv_at hl 8 rfl) ?_
            obtain ⟨q11, hq12, hf⟩ := pf_b hf
            have hPc := hP.sub (ws' := ([] : va_W)) [] rfl
            refine cl_roi (va_runSN (As := [.int x3, .int x8]) (rest := []) ⟨hx, hb, hml, hown, hts⟩ (kX8_placeAt l D cI cJ cZ cB x3 x8 q11 hq12) ⟨va_cnB 2 hts gX1_lookInRow_X8_placeAt_n62 rfl rfl rfl (hK.2.at 12 rfl) (hts (.initialized RX8) (by decide +kernel)) (by decide +kernel) ⟨Nat.le_of_ble_eq_true rfl, Nat.le_of_ble_eq_true rfl⟩, hts (.static yX8_placeAt) (by decide +kernel), trivial⟩ ⟨PRo.blind, PRo.at hK hPc⟩ rfl rfl hl.1 rfl (lv_room (Nat.le_of_ble_eq_true rfl)) dX1_lookInRow_92 ⟨Nat.zero_le _, Nat.zero_le _⟩) ?_
            refine lv_istore (lv' := [(10, .int q11), (9, .int q3), (0, .ref a_o), (1, .ref a_p1), (2, .ref a_p2), (3, .int x3), (4, .int x4), (6, .int x6), (7, .int x7), (8, .int x8)]) hx hb dX1_lookInRow_95 hl (by decide) rfl (fun ls hl => ?_)
            refine lv_aload_n hx hb dX1_lookInRow_97 rfl (lv_at hl 2 rfl) ?_
            refine lv_iload hx hb dX1_lookInRow_98 (lv_at hl 0 rfl) ?_
            refine lv_aload_n hx hb dX1_lookInRow_100 rfl (lv_at hl 3 rfl) ?_
            refine lv_iload hx hb dX1_lookInRow_101 (lv_at hl 0 rfl) ?_
            refine lv_iload hx hb dX1_lookInRow_103 (lv_at hl 6 rfl) ?_
            obtain ⟨q13, hq14, hf⟩ := pf_b hf
            have hPc := hP.sub (ws' := (WX4_qualityOf cI cJ cZ cB a_p1 a_p1_prices a_p1_seats a_p1_joined a_p1_views v_p1_rows v_p1_awaited d_p1_views)) [1, 4] rfl
            refine cl_roi (va_runV (As := [.int q11, .int x4]) (rest := [.int q11, .ref a_o]) ⟨hx, hb, hml, hown, hts⟩ (kX4_qualityOf l D cI cJ cZ cB a_p1 a_p1_prices a_p1_seats a_p1_joined a_p1_views v_p1_rows v_p1_awaited d_p1_views q11 x4 q13 hq14) (cwV 2 hts gX1_lookInRow_X4_qualityOf rfl rfl rfl (by decide +kernel) ⟨Nat.le_of_ble_eq_true rfl, Nat.le_of_ble_eq_true rfl⟩) ⟨PRo.blind, va_recv hK.1 hPc (ci := 4) (q0 := 0) rfl rfl, PRo.at hK hPc⟩ rfl rfl hl.1 rfl (lv_room (Nat.le_of_ble_eq_true rfl)) dX1_lookInRow_105 ⟨Nat.zero_le _, Nat.zero_le _⟩) ?_
            refine lv_aload_n hx hb dX1_lookInRow_108 rfl (lv_at hl 4 rfl) ?_
            refine lv_iload_n hx hb dX1_lookInRow_109 rfl (lv_at hl 5 rfl) ?_
            obtain ⟨q15, hq16, hf⟩ := pf_b hf
            have hPc := hP.sub (ws' := (WX0_priceOf cI cJ cZ cB a_p2 a_p2_prices a_p2_free a_p2_sizes a_p2_limits a_p2_places a_p2_paid a_p2_queue v_p2_asked v_p2_waiting v_p2_fee v_p2_takings d_p2_prices)) [5, 6] rfl
            refine cl_roi (va_runV (As := [.int x3]) (rest := [.int q13, .int q11, .ref a_o]) ⟨hx, hb, hml, hown, hts⟩ (kX0_priceOf l D cI cJ cZ cB a_p2 a_p2_prices a_p2_free a_p2_sizes a_p2_limits a_p2_places a_p2_paid a_p2_queue v_p2_asked v_p2_waiting v_p2_fee v_p2_takings d_p2_prices x3 q15 hq16) (cwV 1 hts gX1_lookInRow_X0_priceOf rfl rfl rfl (by decide +kernel) ⟨Nat.le_of_ble_eq_true rfl, Nat.le_of_ble_eq_true rfl⟩) ⟨PRo.blind, va_recv hK.1 hPc (ci := 0) (q0 := 0) rfl rfl, PRo.at hK hPc⟩ rfl rfl hl.1 rfl (lv_room (Nat.le_of_ble_eq_true rfl)) dX1_lookInRow_110 ⟨Nat.zero_le _, Nat.zero_le _⟩) ?_
            obtain ⟨q17, hq18, hf⟩ := pf_b hf
            have hPc := hP.sub (ws' := (WX1_consider cI cJ cZ cB a_o v_o_places v_o_place v_o_quality v_o_price)) [0] rfl
            have hDc := hD.sub (ws' := (WX1_consider cI cJ cZ cB a_o v_o_places v_o_place v_o_quality v_o_price)) [0] (by decide) rfl
            refine cl_rwv (wr := [(a_p1, .inr (4, [.ref a_p1_prices, .ref a_p1_seats, .ref a_p1_joined, .ref a_p1_views, .int v_p1_rows, .int v_p1_awaited])), (a_p1_seats, .inl (cI, (4, .inl d_p1_seats))), (a_p1_joined, .inl (cI, (4, .inl d_p1_joined))), (a_p1_views, .inl (cI, (36, .inl d_p1_views))), (a_p2, .inr (0, [.ref a_p2_prices, .ref a_p2_free, .ref a_p2_sizes, .ref a_p2_limits, .ref a_p2_places, .ref a_p2_paid, .ref a_p2_queue, .int v_p2_asked, .int v_p2_waiting, .int v_p2_fee, .int v_p2_takings])), (a_p2_prices, .inl (cI, (4, .inl d_p2_prices))), (a_p2_free, .inl (cI, (4, .inl d_p2_free)))]) (wsN := (WX1_lookInRow cI cJ cZ cB a_o a_p1 a_p1_prices a_p1_seats a_p1_joined a_p1_views a_p2 a_p2_prices a_p2_free a_p2_sizes a_p2_limits a_p2_places a_p2_paid a_p2_queue q17.1 q17.2.1 q17.2.2.1 q17.2.2.2 v_p1_rows v_p1_awaited d_p1_seats d_p1_joined d_p1_views v_p2_asked v_p2_waiting v_p2_fee v_p2_takings d_p2_prices d_p2_free)) (va_runV (As := [.int q11, .int q13, .int q15]) (rest := []) ⟨hx, hb, hml, hown, hts⟩ ((kX1_consider l D cI cJ cZ cB a_o v_o_places v_o_place v_o_quality v_o_price q11 q13 q15 q17 hq18) _) (cwV 3 hts gX1_lookInRow_X1_consider rfl rfl rfl (by decide +kernel) ⟨Nat.le_of_ble_eq_true rfl, Nat.le_of_ble_eq_true rfl⟩) ⟨PRw.blind, va_recv hK.1 hPc (ci := 1) (q0 := 0) rfl rfl, PRw.at hK hPc hDc⟩ rfl rfl hl.1 rfl (lv_room (Nat.le_of_ble_eq_true rfl)) dX1_lookInRow_113 ⟨Nat.zero_le _, Nat.zero_le _⟩) hP hD hS hA [0] [1, 2, 3, 4, 5, 6, 7] [7, 0, 1, 2, 3, 4, 5, 6] rfl rfl (by decide) (by decide) rfl (by decide) (fun H locs hP hD hS => ?_)
            refine lv_iinc (v := (x8 + (1 : Int32))) (lv' := [(8, .int (x8 + (1 : Int32))), (10, .int q11), (9, .int q3), (0, .ref a_o), (1, .ref a_p1), (2, .ref a_p2), (3, .int x3), (4, .int x4), (6, .int x6), (7, .int x7)]) hx hb dX1_lookInRow_116 hl (k := 9) rfl rfl (by decide) rfl (fun ls hl => ?_)
            refine lv_goto (tgt := 25) hx hb dX1_lookInRow_119 (by decide) ?_
            exact ih q17.1 q17.2.1 q17.2.2.1 q17.2.2.2 v_p1_rows v_p1_awaited d_p1_seats d_p1_joined d_p1_views v_p2_asked v_p2_waiting v_p2_fee v_p2_takings d_p2_prices d_p2_free x3 x4 x6 x7 (x8 + (1 : Int32)) _ _ ls _ hP hD hS (lv_sub hl [3, 4, 5, 6, 7, 8, 9, 0] rfl) hf
def fX1_lookInRow (v_o_places : Int32) (v_o_place : Int32) (v_o_quality : Int32) (v_o_price : Int32) (v_p1_rows : Int32) (d_p1_seats : (Nat → Int32)) (d_p1_joined : (Nat → Int32)) (d_p1_views : (Nat → Int32)) (d_p2_prices : (Nat → Int32)) (d_p2_free : (Nat → Int32)) (x3 : Int32) (x4 : Int32) (x5 : Int32) : Option (Int32 × Int32 × Int32 × Int32) := ((fX0_freeIn d_p2_free x3).bind fun q1 => ((fX4_loneOf v_p1_rows d_p1_joined x3 q1).bind fun q3 => ((fJ6_bitCount_0f7a4 q3).bind fun q5 => fX1_lookInRow_25 FU v_o_places v_o_place v_o_quality v_o_price v_p1_rows d_p1_seats d_p1_joined d_p1_views d_p2_prices d_p2_free x3 x4 q1 (q5 + x5) (0 : Int32))))
set_option maxRecDepth 100000 in
set_option maxHeartbeats 4000000 in
theorem kX1_lookInRow (l : Launch) (D : va_G) (cI cJ cZ cB : ClassId) (a_o : Nat) (a_p1 : Nat) (a_p1_prices : Nat) (a_p1_seats : Nat) (a_p1_joined : Nat) (a_p1_views : Nat) (a_p2 : Nat) (a_p2_prices : Nat) (a_p2_free : Nat) (a_p2_sizes : Nat) (a_p2_limits : Nat) (a_p2_places : Nat) (a_p2_paid : Nat) (a_p2_queue : Nat) (v_o_places : Int32) (v_o_place : Int32) (v_o_quality : Int32) (v_o_price : Int32) (v_p1_rows : Int32) (v_p1_awaited : Int32) (d_p1_seats : (Nat → Int32)) (d_p1_joined : (Nat → Int32)) (d_p1_views : (Nat → Int32)) (v_p2_asked : Int32) (v_p2_waiting : Int32) (v_p2_fee : Int32) (v_p2_takings : Int32) (d_p2_prices : (Nat → Int32)) (d_p2_free : (Nat → Int32)) (x3 : Int32) (x4 : Int32) (x5 : Int32) (res : Int32 × Int32 × Int32 × Int32) (hf : fX1_lookInRow v_o_places v_o_place v_o_quality v_o_price v_p1_rows d_p1_seats d_p1_joined d_p1_views d_p2_prices d_p2_free x3 x4 x5 = some res) : Rw l yX1_lookInRow wsX1_lookInRow ({ frames := 2, cells := 0, slots := 0, locals := 45 } : Room) D (tyL cI cJ cZ cB) [.ref a_o, .ref a_p1, .ref a_p2, .int x3, .int x4, .int x5] (WX1_lookInRow cI cJ cZ cB a_o a_p1 a_p1_prices a_p1_seats a_p1_joined a_p1_views a_p2 a_p2_prices a_p2_free a_p2_sizes a_p2_limits a_p2_places a_p2_paid a_p2_queue v_o_places v_o_place v_o_quality v_o_price v_p1_rows v_p1_awaited d_p1_seats d_p1_joined d_p1_views v_p2_asked v_p2_waiting v_p2_fee v_p2_takings d_p2_prices d_p2_free) none (WX1_lookInRow cI cJ cZ cB a_o a_p1 a_p1_prices a_p1_seats a_p1_joined a_p1_views a_p2 a_p2_prices a_p2_free a_p2_sizes a_p2_limits a_p2_places a_p2_paid a_p2_queue res.1 res.2.1 res.2.2.1 res.2.2.2 v_p1_rows v_p1_awaited d_p1_seats d_p1_joined d_p1_views v_p2_asked v_p2_waiting v_p2_fee v_p2_takings d_p2_prices d_p2_free) := by
  refine Rw.of (cc := cX1_lookInRow) (maxL := 11) (ret := none) (own := RX1) (by decide) rfl rfl (Nat.le_of_ble_eq_true rfl) ?_
  intro p e s m below meth c A ls C hK hA hP hD hS hl
  obtain ⟨hx, hb, hr, hml, hts, hown, hlk⟩ := id C
  have hl : lv_has ls 11 [(0, .ref a_o), (1, .ref a_p1), (2, .ref a_p2), (3, .int x3), (4, .int x4), (5, .int x5)] := hl
  unfold fX1_lookInRow at hf
  refine lv_aload_n hx hb dX1_lookInRow_0 rfl (lv_at hl 2 rfl) ?_
  refine lv_iload_n hx hb dX1_lookInRow_1 rfl (lv_at hl 3 rfl) ?_
  obtain ⟨q1, hq2, hf⟩ := pf_b hf
  have hPc := hP.sub (ws' := (WX0_freeIn cI cJ cZ cB a_p2 a_p2_prices a_p2_free a_p2_sizes a_p2_limits a_p2_places a_p2_paid a_p2_queue v_p2_asked v_p2_waiting v_p2_fee v_p2_takings d_p2_free)) [5, 7] rfl
  refine cl_roi (va_runV (As := [.int x3]) (rest := []) ⟨hx, hb, hml, hown, hts⟩ (kX0_freeIn l D cI cJ cZ cB a_p2 a_p2_prices a_p2_free a_p2_sizes a_p2_limits a_p2_places a_p2_paid a_p2_queue v_p2_asked v_p2_waiting v_p2_fee v_p2_takings d_p2_free x3 q1 hq2) (cwV 1 hts gX1_lookInRow_X0_freeIn rfl rfl rfl (by decide +kernel) ⟨Nat.le_of_ble_eq_true rfl, Nat.le_of_ble_eq_true rfl⟩) ⟨PRo.blind, va_recv hK.1 hPc (ci := 0) (q0 := 0) rfl rfl, PRo.at hK hPc⟩ rfl rfl hl.1 rfl (lv_room (Nat.le_of_ble_eq_true rfl)) dX1_lookInRow_2 ⟨Nat.zero_le _, Nat.zero_le _⟩) ?_
  refine lv_istore (lv' := [(6, .int q1), (0, .ref a_o), (1, .ref a_p1), (2, .ref a_p2), (3, .int x3), (4, .int x4), (5, .int x5)]) hx hb dX1_lookInRow_5 hl (by decide) rfl (fun ls hl => ?_)
  refine lv_aload_n hx hb dX1_lookInRow_7 rfl (lv_at hl 2 rfl) ?_
  refine lv_iload_n hx hb dX1_lookInRow_8 rfl (lv_at hl 4 rfl) ?_
  refine lv_iload hx hb dX1_lookInRow_9 (lv_at hl 0 rfl) ?_
  obtain ⟨q3, hq4, hf⟩ := pf_b hf
  have hPc := hP.sub (ws' := (WX4_loneOf cI cJ cZ cB a_p1 a_p1_prices a_p1_seats a_p1_joined a_p1_views v_p1_rows v_p1_awaited d_p1_joined)) [1, 3] rfl
  refine cl_roi (va_runV (As := [.int x3, .int q1]) (rest := []) ⟨hx, hb, hml, hown, hts⟩ (kX4_loneOf l D cI cJ cZ cB a_p1 a_p1_prices a_p1_seats a_p1_joined a_p1_views v_p1_rows v_p1_awaited d_p1_joined x3 q1 q3 hq4) (cwV 2 hts gX1_lookInRow_X4_loneOf rfl rfl rfl (by decide +kernel) ⟨Nat.le_of_ble_eq_true rfl, Nat.le_of_ble_eq_true rfl⟩) ⟨PRo.blind, va_recv hK.1 hPc (ci := 4) (q0 := 0) rfl rfl, PRo.at hK hPc⟩ rfl rfl hl.1 rfl (lv_room (Nat.le_of_ble_eq_true rfl)) dX1_lookInRow_11 ⟨Nat.zero_le _, Nat.zero_le _⟩) ?_
  obtain ⟨q5, hq6, hf⟩ := pf_b hf
  have hPc := hP.sub (ws' := ([] : va_W)) [] rfl
  refine cl_roi (va_runS (As := [.int q3]) (rest := []) ⟨hx, hb, hml, hown, hts⟩ (kJ6_bitCount_0f7a4 l D cI cJ cZ cB q3 q5 hq6) (va_cwS 1 hts gX1_lookInRow_J6_bitCount_0f7a4 rfl rfl rfl (by decide +kernel) ⟨Nat.le_of_ble_eq_true rfl, Nat.le_of_ble_eq_true rfl⟩) ⟨PRo.blind, PRo.at hK hPc⟩ rfl rfl hl.1 rfl (lv_room (Nat.le_of_ble_eq_true rfl)) dX1_lookInRow_14 ⟨Nat.zero_le _, Nat.zero_le _⟩) ?_
  refine lv_iload hx hb dX1_lookInRow_17 (lv_at hl 6 rfl) ?_
  refine lv_iadd hx hb dX1_lookInRow_19 ?_
  refine lv_istore (lv' := [(7, .int (q5 + x5)), (6, .int q1), (0, .ref a_o), (1, .ref a_p1), (2, .ref a_p2), (3, .int x3), (4, .int x4), (5, .int x5)]) hx hb dX1_lookInRow_20 hl (by decide) rfl (fun ls hl => ?_)
  refine lv_iconst (v := (0 : Int32)) hx hb dX1_lookInRow_22 (by decide) ?_
  refine lv_istore (lv' := [(8, .int (0 : Int32)), (7, .int (q5 + x5)), (6, .int q1), (0, .ref a_o), (1, .ref a_p1), (2, .ref a_p2), (3, .int x3), (4, .int x4), (5, .int x5)]) hx hb dX1_lookInRow_23 hl (by decide) rfl (fun ls hl => ?_)
  exact tX1_lookInRow_25 C hK hA  FU v_o_places v_o_place v_o_quality v_o_price v_p1_rows v_p1_awaited d_p1_seats d_p1_joined d_p1_views v_p2_asked v_p2_waiting v_p2_fee v_p2_takings d_p2_prices d_p2_free x3 x4 q1 (q5 + x5) (0 : Int32) _ _ ls _ hP hD hS (lv_sub hl [3, 4, 5, 6, 7, 2, 1, 0] rfl) hf
abbrev WX1_look (cI cJ cZ cB : ClassId) (a_o : Nat) (a_p1 : Nat) (a_p1_prices : Nat) (a_p1_seats : Nat) (a_p1_joined : Nat) (a_p1_views : Nat) (a_p2 : Nat) (a_p2_prices : Nat) (a_p2_free : Nat) (a_p2_sizes : Nat) (a_p2_limits : Nat) (a_p2_places : Nat) (a_p2_paid : Nat) (a_p2_queue : Nat) (v_o_places : Int32) (v_o_place : Int32) (v_o_quality : Int32) (v_o_price : Int32) (v_p1_rows : Int32) (v_p1_awaited : Int32) (d_p1_seats : (Nat → Int32)) (d_p1_joined : (Nat → Int32)) (d_p1_views : (Nat → Int32)) (v_p2_asked : Int32) (v_p2_waiting : Int32) (v_p2_fee : Int32) (v_p2_takings : Int32) (d_p2_prices : (Nat → Int32)) (d_p2_free : (Nat → Int32)) : va_W := [(a_o, .inr (1, [.int v_o_places, .int v_o_place, .int v_o_quality, .int v_o_price])), (a_p1, .inr (4, [.ref a_p1_prices, .ref a_p1_seats, .ref a_p1_joined, .ref a_p1_views, .int v_p1_rows, .int v_p1_awaited])), (a_p1_seats, .inl (cI, (4, .inl d_p1_seats))), (a_p1_joined, .inl (cI, (4, .inl d_p1_joined))), (a_p1_views, .inl (cI, (36, .inl d_p1_views))), (a_p2, .inr (0, [.ref a_p2_prices, .ref a_p2_free, .ref a_p2_sizes, .ref a_p2_limits, .ref a_p2_places, .ref a_p2_paid, .ref a_p2_queue, .int v_p2_asked, .int v_p2_waiting, .int v_p2_fee, .int v_p2_takings])), (a_p2_prices, .inl (cI, (4, .inl d_p2_prices))), (a_p2_free, .inl (cI, (4, .inl d_p2_free)))]
set_option maxRecDepth 20000 in
theorem iX1_look_X1 : ∀ w ∈ wsX10, w ∈ wsX1_look := by decide +kernel
def fX1_look_24 : Nat → Int32 → Int32 → Int32 → Int32 → Int32 → (Nat → Int32) → (Nat → Int32) → (Nat → Int32) → (Nat → Int32) → (Nat → Int32) → Int32 → Int32 → Int32 → Int32 → Int32 → Option (Int32 × Int32 × Int32 × Int32 × Int32)
  | 0, _, _, _, _, _, _, _, _, _, _, _, _, _, _, _ => none
  | n + 1, v_o_places, v_o_place, v_o_quality, v_o_price, v_p1_rows, d_p1_seats, d_p1_joined, d_p1_views, d_p2_prices, d_p2_free, x3, x4, x5, x6, x7 => ((fX4_rows v_p1_rows).bind fun q1 => (if q1 ≤ x7 then some (v_o_place, v_o_places, v_o_place, v_o_quality, v_o_price) else (if (x6 &&& ((1 : Int32) <<< (x7 &&& 31))) = 0 then fX1_look_24 n v_o_places v_o_place v_o_quality v_o_price v_p1_rows d_p1_seats d_p1_joined d_p1_views d_p2_prices d_p2_free x3 x4 x5 x6 (x7 + (1 : Int32)) else ((fX0_priceOf d_p2_prices x7).bind fun q3 => (if x4 < q3 then fX1_look_24 n v_o_places v_o_place v_o_quality v_o_price v_p1_rows d_p1_seats d_p1_joined d_p1_views d_p2_prices d_p2_free x3 x4 x5 x6 (x7 + (1 : Int32)) else ((fX1_lookInRow v_o_places v_o_place v_o_quality v_o_price v_p1_rows d_p1_seats d_p1_joined d_p1_views d_p2_prices d_p2_free x7 x3 x5).bind fun q5 => fX1_look_24 n q5.1 q5.2.1 q5.2.2.1 q5.2.2.2 v_p1_rows d_p1_seats d_p1_joined d_p1_views d_p2_prices d_p2_free x3 x4 x5 x6 (x7 + (1 : Int32))))))))
set_option maxRecDepth 100000 in
set_option maxHeartbeats 4000000 in
theorem tX1_look_24 {p : Program} {l : Launch} {e : Env} {s : State} {m : MethodId} {args : Array Value} {below : List Frame} {meth : Method} {c : Code} {D : va_G} {cI cJ cZ cB : ClassId} {a_o : Nat} {a_p1 : Nat} {a_p1_prices : Nat} {a_p1_seats : Nat} {a_p1_joined : Nat} {a_p1_views : Nat} {a_p2 : Nat} {a_p2_prices : Nat} {a_p2_free : Nat} {a_p2_sizes : Nat} {a_p2_limits : Nat} {a_p2_places : Nat} {a_p2_paid : Nat} {a_p2_queue : Nat} {A : Nat → Prop} (C : Cx p s m args meth c cX1_look 8 (some .int) wsX1_look RX1) (hK : Kw D (tyL cI cJ cZ cB) s) (hA : ∀ q : Nat, s.heap.size ≤ q → A q) : ∀ (n : Nat), ∀ (v_o_places : Int32) (v_o_place : Int32) (v_o_quality : Int32) (v_o_price : Int32) (v_p1_rows : Int32) (v_p1_awaited : Int32) (d_p1_seats : (Nat → Int32)) (d_p1_joined : (Nat → Int32)) (d_p1_views : (Nat → Int32)) (v_p2_asked : Int32) (v_p2_waiting : Int32) (v_p2_fee : Int32) (v_p2_takings : Int32) (d_p2_prices : (Nat → Int32)) (d_p2_free : (Nat → Int32)) (x3 : Int32) (x4 : Int32) (x5 : Int32) (x6 : Int32) (x7 : Int32) (H : Heap) (locs : List Loc) (ls : Array Slot) (res : Int32 × Int32 × Int32 × Int32 × Int32), va_P D vwCl (WX1_look cI cJ cZ cB a_o a_p1 a_p1_prices a_p1_seats a_p1_joined a_p1_views a_p2 a_p2_prices a_p2_free a_p2_sizes a_p2_limits a_p2_places a_p2_paid a_p2_queue v_o_places v_o_place v_o_quality v_o_price v_p1_rows v_p1_awaited d_p1_seats d_p1_joined d_p1_views v_p2_asked v_p2_waiting v_p2_fee v_p2_takings d_p2_prices d_p2_free) H → va_D A (WX1_look cI cJ cZ cB a_o a_p1 a_p1_prices a_p1_seats a_p1_joined a_p1_views a_p2 a_p2_prices a_p2_free a_p2_sizes a_p2_limits a_p2_places a_p2_paid a_p2_queue v_o_places v_o_place v_o_quality v_o_price v_p1_rows v_p1_awaited d_p1_seats d_p1_joined d_p1_views v_p2_asked v_p2_waiting v_p2_fee v_p2_takings d_p2_prices d_p2_free) → va_S A s.heap H locs → lv_has ls 8 [(0, .ref a_o), (1, .ref a_p1), (2, .ref a_p2), (3, .int x3), (4, .int x4), (5, .int x5), (6, .int x6), (7, .int x7)] → fX1_look_24 n v_o_places v_o_place v_o_quality v_o_price v_p1_rows d_p1_seats d_p1_joined d_p1_views d_p2_prices d_p2_free x3 x4 x5 x6 x7 = some res → W p l e ({ frames := 3, cells := 0, slots := 0, locals := 75 } : Room) s m args below meth c H locs 0 0 (MQ below (QRw D A (WX1_look cI cJ cZ cB a_o a_p1 a_p1_prices a_p1_seats a_p1_joined a_p1_views a_p2 a_p2_prices a_p2_free a_p2_sizes a_p2_limits a_p2_places a_p2_paid a_p2_queue res.2.1 res.2.2.1 res.2.2.2.1 res.2.2.2.2 v_p1_rows v_p1_awaited d_p1_seats d_p1_joined d_p1_views v_p2_asked v_p2_waiting v_p2_fee v_p2_takings d_p2_prices d_p2_free) (some (.int res.1))) args s 0 0 A) (F0 m 24 ls []) := by
  obtain ⟨hx, hb, hr, hml, hts, hown, hlk⟩ := id C
  intro n
  induction n with
  | zero =>
    intro v_o_places v_o_place v_o_quality v_o_price v_p1_rows v_p1_awaited d_p1_seats d_p1_joined d_p1_views v_p2_asked v_p2_waiting v_p2_fee v_p2_takings d_p2_prices d_p2_free x3 x4 x5 x6 x7 H locs ls res hP hD hS hl hf
    rw [fX1_look_24] at hf
    cases hf
  | succ n ih =>
    intro v_o_places v_o_place v_o_quality v_o_price v_p1_rows v_p1_awaited d_p1_seats d_p1_joined d_p1_views v_p2_asked v_p2_waiting v_p2_fee v_p2_takings d_p2_prices d_p2_free x3 x4 x5 x6 x7 H locs ls res hP hD hS hl hf
    rw [fX1_look_24] at hf
    refine lv_iload hx hb dX1_look_24 (lv_at hl 7 rfl) ?_
    refine lv_aload_n hx hb dX1_look_26 rfl (lv_at hl 1 rfl) ?_
    obtain ⟨q1, hq2, hf⟩ := pf_b hf
    have hPc := hP.sub (ws' := (WX4_rows cI cJ cZ cB a_p1 a_p1_prices a_p1_seats a_p1_joined a_p1_views v_p1_rows v_p1_awaited)) [1] rfl
    refine cl_roi (va_runV (As := []) (rest := [.int x7]) ⟨hx, hb, hml, hown, hts⟩ (kX4_rows l D cI cJ cZ cB a_p1 a_p1_prices a_p1_seats a_p1_joined a_p1_views v_p1_rows v_p1_awaited q1 hq2) (cwV 0 hts gX1_look_X4_rows rfl rfl rfl (by decide +kernel) ⟨Nat.le_of_ble_eq_true rfl, Nat.le_of_ble_eq_true rfl⟩) ⟨PRo.blind, va_recv hK.1 hPc (ci := 4) (q0 := 0) rfl rfl, PRo.at hK hPc⟩ rfl rfl hl.1 rfl (lv_room (Nat.le_of_ble_eq_true rfl)) dX1_look_27 ⟨Nat.zero_le _, Nat.zero_le _⟩) ?_
    refine lv_icmp_ge (tgt := 71) hx hb dX1_look_30 (by decide) (fun hc => ?_) (fun hc => ?_)
    · have hf := pf_t hc hf
      refine lv_aload_n hx hb dX1_look_71 rfl (lv_at hl 0 rfl) ?_
      refine va_get (D := D) (ci := 1) (v := .int v_o_place) (C := RX1) (T := TX1) (N := 4) hx hb hts iX1_look_X1 hown hK.1 hP 0 rfl rfl 1 (by decide) (hts (.fieldLink RX1 18 "LoneSeats$Finder" "place" "I") (by decide +kernel)) (fun _ h9 => h9) rfl dX1_look_72 ?_
      cases hf
      exact W.iret hx hb hr (fun t ht hW => ⟨⟨rfl, by rw [ht]; exact hP, hD⟩, hS.F ht⟩) hS.2.2 dX1_look_75
    · have hf := pf_f hc hf
      refine lv_iload hx hb dX1_look_33 (lv_at hl 6 rfl) ?_
      refine lv_iconst (v := (1 : Int32)) hx hb dX1_look_35 (by decide) ?_
      refine lv_iload hx hb dX1_look_36 (lv_at hl 7 rfl) ?_
      refine lv_ishl hx hb dX1_look_38 ?_
      refine lv_iand hx hb dX1_look_39 ?_
      refine lv_if_eq (tgt := 65) hx hb dX1_look_40 (by decide) (fun hc => ?_) (fun hc => ?_)
      · have hf := pf_t hc hf
        refine lv_iinc (v := (x7 + (1 : Int32))) (lv' := [(7, .int (x7 + (1 : Int32))), (0, .ref a_o), (1, .ref a_p1), (2, .ref a_p2), (3, .int x3), (4, .int x4), (5, .int x5), (6, .int x6)]) hx hb dX1_look_65 hl (k := 7) rfl rfl (by decide) rfl (fun ls hl => ?_)
        refine lv_goto (tgt := 24) hx hb dX1_look_68 (by decide) ?_
        exact ih v_o_places v_o_place v_o_quality v_o_price v_p1_rows v_p1_awaited d_p1_seats d_p1_joined d_p1_views v_p2_asked v_p2_waiting v_p2_fee v_p2_takings d_p2_prices d_p2_free x3 x4 x5 x6 (x7 + (1 : Int32)) _ _ ls _ hP hD hS (lv_sub hl [1, 2, 3, 4, 5, 6, 7, 0] rfl) hf
      · have hf := pf_f hc hf
        refine lv_aload_n hx hb dX1_look_43 rfl (lv_at hl 2 rfl) ?_
        refine lv_iload hx hb dX1_look_44 (lv_at hl 7 rfl) ?_
        obtain ⟨q3, hq4, hf⟩ := pf_b hf
        have hPc := hP.sub (ws' := (WX0_priceOf cI cJ cZ cB a_p2 a_p2_prices a_p2_free a_p2_sizes a_p2_limits a_p2_places a_p2_paid a_p2_queue v_p2_asked v_p2_waiting v_p2_fee v_p2_takings d_p2_prices)) [5, 6] rfl
        refine cl_roi (va_runV (As := [.int x7]) (rest := []) ⟨hx, hb, hml, hown, hts⟩ (kX0_priceOf l D cI cJ cZ cB a_p2 a_p2_prices a_p2_free a_p2_sizes a_p2_limits a_p2_places a_p2_paid a_p2_queue v_p2_asked v_p2_waiting v_p2_fee v_p2_takings d_p2_prices x7 q3 hq4) (cwV 1 hts gX1_look_X0_priceOf rfl rfl rfl (by decide +kernel) ⟨Nat.le_of_ble_eq_true rfl, Nat.le_of_ble_eq_true rfl⟩) ⟨PRo.blind, va_recv hK.1 hPc (ci := 0) (q0 := 0) rfl rfl, PRo.at hK hPc⟩ rfl rfl hl.1 rfl (lv_room (Nat.le_of_ble_eq_true rfl)) dX1_look_46 ⟨Nat.zero_le _, Nat.zero_le _⟩) ?_
        refine lv_iload hx hb dX1_look_49 (lv_at hl 4 rfl) ?_
        refine lv_icmp_gt (tgt := 65) hx hb dX1_look_51 (by decide) (fun hc => ?_) (fun hc => ?_)
        · have hf := pf_t hc hf
          refine lv_iinc (v := (x7 + (1 : Int32))) (lv' := [(7, .int (x7 + (1 : Int32))), (0, .ref a_o), (1, .ref a_p1), (2, .ref a_p2), (3, .int x3), (4, .int x4), (5, .int x5), (6, .int x6)]) hx hb dX1_look_65 hl (k := 7) rfl rfl (by decide) rfl (fun ls hl => ?_)
          refine lv_goto (tgt := 24) hx hb dX1_look_68 (by decide) ?_
          exact ih v_o_places v_o_place v_o_quality v_o_price v_p1_rows v_p1_awaited d_p1_seats d_p1_joined d_p1_views v_p2_asked v_p2_waiting v_p2_fee v_p2_takings d_p2_prices d_p2_free x3 x4 x5 x6 (x7 + (1 : Int32)) _ _ ls _ hP hD hS (lv_sub hl [1, 2, 3, 4, 5, 6, 7, 0] rfl) hf
        · have hf := pf_f hc hf
          refine lv_aload_n hx hb dX1_look_54 rfl (lv_at hl 0 rfl) ?_
          refine lv_aload_n hx hb dX1_look_55 rfl (lv_at hl 1 rfl) ?_
          refine lv_aload_n hx hb dX1_look_56 rfl (lv_at hl 2 rfl) ?_
          refine lv_iload hx hb dX1_look_57 (lv_at hl 7 rfl) ?_
          refine lv_iload_n hx hb dX1_look_59 rfl (lv_at hl 3 rfl) ?_
          refine lv_iload hx hb dX1_look_60 (lv_at hl 5 rfl) ?_
          obtain ⟨q5, hq6, hf⟩ := pf_b hf
          have hPc := hP.sub (ws' := (WX1_lookInRow cI cJ cZ cB a_o a_p1 a_p1_prices a_p1_seats a_p1_joined a_p1_views a_p2 a_p2_prices a_p2_free a_p2_sizes a_p2_limits a_p2_places a_p2_paid a_p2_queue v_o_places v_o_place v_o_quality v_o_price v_p1_rows v_p1_awaited d_p1_seats d_p1_joined d_p1_views v_p2_asked v_p2_waiting v_p2_fee v_p2_takings d_p2_prices d_p2_free)) [0, 1, 2, 3, 4, 5, 6, 7] rfl
          have hDc := hD.sub (ws' := (WX1_lookInRow cI cJ cZ cB a_o a_p1 a_p1_prices a_p1_seats a_p1_joined a_p1_views a_p2 a_p2_prices a_p2_free a_p2_sizes a_p2_limits a_p2_places a_p2_paid a_p2_queue v_o_places v_o_place v_o_quality v_o_price v_p1_rows v_p1_awaited d_p1_seats d_p1_joined d_p1_views v_p2_asked v_p2_waiting v_p2_fee v_p2_takings d_p2_prices d_p2_free)) [0, 1, 2, 3, 4, 5, 6, 7] (by decide) rfl
          refine cl_rwv (wr := []) (wsN := (WX1_look cI cJ cZ cB a_o a_p1 a_p1_prices a_p1_seats a_p1_joined a_p1_views a_p2 a_p2_prices a_p2_free a_p2_sizes a_p2_limits a_p2_places a_p2_paid a_p2_queue q5.1 q5.2.1 q5.2.2.1 q5.2.2.2 v_p1_rows v_p1_awaited d_p1_seats d_p1_joined d_p1_views v_p2_asked v_p2_waiting v_p2_fee v_p2_takings d_p2_prices d_p2_free)) (va_runV (As := [.ref a_p1, .ref a_p2, .int x7, .int x3, .int x5]) (rest := []) ⟨hx, hb, hml, hown, hts⟩ ((kX1_lookInRow l D cI cJ cZ cB a_o a_p1 a_p1_prices a_p1_seats a_p1_joined a_p1_views a_p2 a_p2_prices a_p2_free a_p2_sizes a_p2_limits a_p2_places a_p2_paid a_p2_queue v_o_places v_o_place v_o_quality v_o_price v_p1_rows v_p1_awaited d_p1_seats d_p1_joined d_p1_views v_p2_asked v_p2_waiting v_p2_fee v_p2_takings d_p2_prices d_p2_free x7 x3 x5 q5 hq6) _) (cwV 5 hts gX1_look_X1_lookInRow rfl rfl rfl (by decide +kernel) ⟨Nat.le_of_ble_eq_true rfl, Nat.le_of_ble_eq_true rfl⟩) ⟨PRw.blind, va_recv hK.1 hPc (ci := 1) (q0 := 0) rfl rfl, PRw.at hK hPc hDc⟩ rfl rfl hl.1 rfl (lv_room (Nat.le_of_ble_eq_true rfl)) dX1_look_62 ⟨Nat.zero_le _, Nat.zero_le _⟩) hP hD hS hA [0, 1, 2, 3, 4, 5, 6, 7] [] [0, 1, 2, 3, 4, 5, 6, 7] rfl rfl (by decide) (by decide) rfl (by decide) (fun H locs hP hD hS => ?_)
          refine lv_iinc (v := (x7 + (1 : Int32))) (lv' := [(7, .int (x7 + (1 : Int32))), (0, .ref a_o), (1, .ref a_p1), (2, .ref a_p2), (3, .int x3), (4, .int x4), (5, .int x5), (6, .int x6)]) hx hb dX1_look_65 hl (k := 7) rfl rfl (by decide) rfl (fun ls hl => ?_)
          refine lv_goto (tgt := 24) hx hb dX1_look_68 (by decide) ?_
          exact ih q5.1 q5.2.1 q5.2.2.1 q5.2.2.2 v_p1_rows v_p1_awaited d_p1_seats d_p1_joined d_p1_views v_p2_asked v_p2_waiting v_p2_fee v_p2_takings d_p2_prices d_p2_free x3 x4 x5 x6 (x7 + (1 : Int32)) _ _ ls _ hP hD hS (lv_sub hl [1, 2, 3, 4, 5, 6, 7, 0] rfl) hf
def fX1_look (v_o_places : Int32) (v_o_place : Int32) (v_o_quality : Int32) (v_o_price : Int32) (v_p1_rows : Int32) (d_p1_seats : (Nat → Int32)) (d_p1_joined : (Nat → Int32)) (d_p1_views : (Nat → Int32)) (d_p2_prices : (Nat → Int32)) (d_p2_free : (Nat → Int32)) (x3 : Int32) (x4 : Int32) (x5 : Int32) (x6 : Int32) : Option (Int32 × Int32 × Int32 × Int32 × Int32) := fX1_look_24 FU (0 : Int32) (-9 : Int32) (0 : Int32) (0 : Int32) v_p1_rows d_p1_seats d_p1_joined d_p1_views d_p2_prices d_p2_free x3 x4 x5 x6 (0 : Int32)
set_option maxRecDepth 100000 in
set_option maxHeartbeats 4000000 in
theorem kX1_look (l : Launch) (D : va_G) (cI cJ cZ cB : ClassId) (a_o : Nat) (a_p1 : Nat) (a_p1_prices : Nat) (a_p1_seats : Nat) (a_p1_joined : Nat) (a_p1_views : Nat) (a_p2 : Nat) (a_p2_prices : Nat) (a_p2_free : Nat) (a_p2_sizes : Nat) (a_p2_limits : Nat) (a_p2_places : Nat) (a_p2_paid : Nat) (a_p2_queue : Nat) (v_o_places : Int32) (v_o_place : Int32) (v_o_quality : Int32) (v_o_price : Int32) (v_p1_rows : Int32) (v_p1_awaited : Int32) (d_p1_seats : (Nat → Int32)) (d_p1_joined : (Nat → Int32)) (d_p1_views : (Nat → Int32)) (v_p2_asked : Int32) (v_p2_waiting : Int32) (v_p2_fee : Int32) (v_p2_takings : Int32) (d_p2_prices : (Nat → Int32)) (d_p2_free : (Nat → Int32)) (x3 : Int32) (x4 : Int32) (x5 : Int32) (x6 : Int32) (res : Int32 × Int32 × Int32 × Int32 × Int32) (hf : fX1_look v_o_places v_o_place v_o_quality v_o_price v_p1_rows d_p1_seats d_p1_joined d_p1_views d_p2_prices d_p2_free x3 x4 x5 x6 = some res) : Rw l yX1_look wsX1_look ({ frames := 3, cells := 0, slots := 0, locals := 75 } : Room) D (tyL cI cJ cZ cB) [.ref a_o, .ref a_p1, .ref a_p2, .int x3, .int x4, .int x5, .int x6] (WX1_look cI cJ cZ cB a_o a_p1 a_p1_prices a_p1_seats a_p1_joined a_p1_views a_p2 a_p2_prices a_p2_free a_p2_sizes a_p2_limits a_p2_places a_p2_paid a_p2_queue v_o_places v_o_place v_o_quality v_o_price v_p1_rows v_p1_awaited d_p1_seats d_p1_joined d_p1_views v_p2_asked v_p2_waiting v_p2_fee v_p2_takings d_p2_prices d_p2_free) (some (.int res.1)) (WX1_look cI cJ cZ cB a_o a_p1 a_p1_prices a_p1_seats a_p1_joined a_p1_views a_p2 a_p2_prices a_p2_free a_p2_sizes a_p2_limits a_p2_places a_p2_paid a_p2_queue res.2.1 res.2.2.1 res.2.2.2.1 res.2.2.2.2 v_p1_rows v_p1_awaited d_p1_seats d_p1_joined d_p1_views v_p2_asked v_p2_waiting v_p2_fee v_p2_takings d_p2_prices d_p2_free) := by
  refine Rw.of (cc := cX1_look) (maxL := 8) (ret := (some .int)) (own := RX1) (by decide) rfl rfl (Nat.le_of_ble_eq_true rfl) ?_
  intro p e s m below meth c A ls C hK hA hP hD hS hl
  obtain ⟨hx, hb, hr, hml, hts, hown, hlk⟩ := id C
  have hl : lv_has ls 8 [(0, .ref a_o), (1, .ref a_p1), (2, .ref a_p2), (3, .int x3), (4, .int x4), (5, .int x5), (6, .int x6)] := hl
  unfold fX1_look at hf
  refine lv_aload_n hx hb dX1_look_0 rfl (lv_at hl 0 rfl) ?_
  refine lv_iconst (v := (0 : Int32)) hx hb dX1_look_1 (by decide) ?_
  refine va_put (D := D) (ci := 1) (v := .int (0 : Int32)) (ty := .int) (C := RX1) (T := TX1) (N := 4) hx hb hts iX1_look_X1 tyX1 tyX1_ok nmX1 hown hK.1 hP hD hS 0 rfl rfl 0 (by decide) (hts (.fieldLink RX1 9 "LoneSeats$Finder" "places" "I") (by decide +kernel)) (fun _ h9 => h9) rfl (by decide +kernel) rfl rfl (Nat.le_of_ble_eq_true rfl) dX1_look_2 (fun H locs hP hD hS => ?_)
  have hP : va_P D vwCl (WX1_look cI cJ cZ cB a_o a_p1 a_p1_prices a_p1_seats a_p1_joined a_p1_views a_p2 a_p2_prices a_p2_free a_p2_sizes a_p2_limits a_p2_places a_p2_paid a_p2_queue (0 : Int32) v_o_place v_o_quality v_o_price v_p1_rows v_p1_awaited d_p1_seats d_p1_joined d_p1_views v_p2_asked v_p2_waiting v_p2_fee v_p2_takings d_p2_prices d_p2_free) H := hP
  have hD : va_D A (WX1_look cI cJ cZ cB a_o a_p1 a_p1_prices a_p1_seats a_p1_joined a_p1_views a_p2 a_p2_prices a_p2_free a_p2_sizes a_p2_limits a_p2_places a_p2_paid a_p2_queue (0 : Int32) v_o_place v_o_quality v_o_price v_p1_rows v_p1_awaited d_p1_seats d_p1_joined d_p1_views v_p2_asked v_p2_waiting v_p2_fee v_p2_takings d_p2_prices d_p2_free) := hD
  refine lv_aload_n hx hb dX1_look_5 rfl (lv_at hl 0 rfl) ?_
  refine lv_bipush (v := (-9 : Int32)) hx hb dX1_look_6 (by decide) ?_
  refine va_put (D := D) (ci := 1) (v := .int (-9 : Int32)) (ty := .int) (C := RX1) (T := TX1) (N := 4) hx hb hts iX1_look_X1 tyX1 tyX1_ok nmX1 hown hK.1 hP hD hS 0 rfl rfl 1 (by decide) (hts (.fieldLink RX1 18 "LoneSeats$Finder" "place" "I") (by decide +kernel)) (fun _ h9 => h9) rfl (by decide +kernel) rfl rfl (Nat.le_of_ble_eq_true rfl) dX1_look_8 (fun H locs hP hD hS => ?_)
  have hP : va_P D vwCl (WX1_look cI cJ cZ cB a_o a_p1 a_p1_prices a_p1_seats a_p1_joined a_p1_views a_p2 a_p2_prices a_p2_free a_p2_sizes a_p2_limits a_p2_places a_p2_paid a_p2_queue (0 : Int32) (-9 : Int32) v_o_quality v_o_price v_p1_rows v_p1_awaited d_p1_seats d_p1_joined d_p1_views v_p2_asked v_p2_waiting v_p2_fee v_p2_takings d_p2_prices d_p2_free) H := hP
  have hD : va_D A (WX1_look cI cJ cZ cB a_o a_p1 a_p1_prices a_p1_seats a_p1_joined a_p1_views a_p2 a_p2_prices a_p2_free a_p2_sizes a_p2_limits a_p2_places a_p2_paid a_p2_queue (0 : Int32) (-9 : Int32) v_o_quality v_o_price v_p1_rows v_p1_awaited d_p1_seats d_p1_joined d_p1_views v_p2_asked v_p2_waiting v_p2_fee v_p2_takings d_p2_prices d_p2_free) := hD
  refine lv_aload_n hx hb dX1_look_11 rfl (lv_at hl 0 rfl) ?_
  refine lv_iconst (v := (0 : Int32)) hx hb dX1_look_12 (by decide) ?_
  refine va_put (D := D) (ci := 1) (v := .int (0 : Int32)) (ty := .int) (C := RX1) (T := TX1) (N := 4) hx hb hts iX1_look_X1 tyX1 tyX1_ok nmX1 hown hK.1 hP hD hS 0 rfl rfl 2 (by decide) (hts (.fieldLink RX1 15 "LoneSeats$Finder" "quality" "I") (by decide +kernel)) (fun _ h9 => h9) rfl (by decide +kernel) rfl rfl (Nat.le_of_ble_eq_true rfl) dX1_look_13 (fun H locs hP hD hS => ?_)
  have hP : va_P D vwCl (WX1_look cI cJ cZ cB a_o a_p1 a_p1_prices a_p1_seats a_p1_joined a_p1_views a_p2 a_p2_prices a_p2_free a_p2_sizes a_p2_limits a_p2_places a_p2_paid a_p2_queue (0 : Int32) (-9 : Int32) (0 : Int32) v_o_price v_p1_rows v_p1_awaited d_p1_seats d_p1_joined d_p1_views v_p2_asked v_p2_waiting v_p2_fee v_p2_takings d_p2_prices d_p2_free) H := hP
  have hD : va_D A (WX1_look cI cJ cZ cB a_o a_p1 a_p1_prices a_p1_seats a_p1_joined a_p1_views a_p2 a_p2_prices a_p2_free a_p2_sizes a_p2_limits a_p2_places a_p2_paid a_p2_queue (0 : Int32) (-9 : Int32) (0 : Int32) v_o_price v_p1_rows v_p1_awaited d_p1_seats d_p1_joined d_p1_views v_p2_asked v_p2_waiting v_p2_fee v_p2_takings d_p2_prices d_p2_free) := hD
  refine lv_aload_n hx hb dX1_look_16 rfl (lv_at hl 0 rfl) ?_
  refine lv_iconst (v := (0 : Int32)) hx hb dX1_look_17 (by decide) ?_
  refine va_put (D := D) (ci := 1) (v := .int (0 : Int32)) (ty := .int) (C := RX1) (T := TX1) (N := 4) hx hb hts iX1_look_X1 tyX1 tyX1_ok nmX1 hown hK.1 hP hD hS 0 rfl rfl 3 (by decide) (hts (.fieldLink RX1 21 "LoneSeats$Finder" "price" "I") (by decide +kernel)) (fun _ h9 => h9) rfl (by decide +kernel) rfl rfl (Nat.le_of_ble_eq_true rfl) dX1_look_18 (fun H locs hP hD hS => ?_)
  have hP : va_P D vwCl (WX1_look cI cJ cZ cB a_o a_p1 a_p1_prices a_p1_seats a_p1_joined a_p1_views a_p2 a_p2_prices a_p2_free a_p2_sizes a_p2_limits a_p2_places a_p2_paid a_p2_queue (0 : Int32) (-9 : Int32) (0 : Int32) (0 : Int32) v_p1_rows v_p1_awaited d_p1_seats d_p1_joined d_p1_views v_p2_asked v_p2_waiting v_p2_fee v_p2_takings d_p2_prices d_p2_free) H := hP
  have hD : va_D A (WX1_look cI cJ cZ cB a_o a_p1 a_p1_prices a_p1_seats a_p1_joined a_p1_views a_p2 a_p2_prices a_p2_free a_p2_sizes a_p2_limits a_p2_places a_p2_paid a_p2_queue (0 : Int32) (-9 : Int32) (0 : Int32) (0 : Int32) v_p1_rows v_p1_awaited d_p1_seats d_p1_joined d_p1_views v_p2_asked v_p2_waiting v_p2_fee v_p2_takings d_p2_prices d_p2_free) := hD
  refine lv_iconst (v := (0 : Int32)) hx hb dX1_look_21 (by decide) ?_
  refine lv_istore (lv' := [(7, .int (0 : Int32)), (0, .ref a_o), (1, .ref a_p1), (2, .ref a_p2), (3, .int x3), (4, .int x4), (5, .int x5), (6, .int x6)]) hx hb dX1_look_22 hl (by decide) rfl (fun ls hl => ?_)
  exact tX1_look_24 C hK hA  FU (0 : Int32) (-9 : Int32) (0 : Int32) (0 : Int32) v_p1_rows v_p1_awaited d_p1_seats d_p1_joined d_p1_views v_p2_asked v_p2_waiting v_p2_fee v_p2_takings d_p2_prices d_p2_free x3 x4 x5 x6 (0 : Int32) _ _ ls _ hP hD hS (lv_sub hl [1, 2, 3, 4, 5, 6, 7, 0] rfl) hf
abbrev WX2_begin (cI cJ cZ cB : ClassId) (a_o : Nat) (a_o_weights : Nat) (v_o_whole : Int64) (d_o_weights : (Nat → Int64)) : va_W := [(a_o, .inr (2, [.ref a_o_weights, .long v_o_whole])), (a_o_weights, .inl (cJ, (10, .inr (.inl d_o_weights))))]
set_option maxRecDepth 20000 in
theorem iX2_begin_X2 : ∀ w ∈ wsX20, w ∈ wsX2_begin := by decide +kernel
def fX2_begin_2 : Nat → Int64 → (Nat → Int64) → Int32 → Option (Int64 × (Nat → Int64))
  | 0, _, _, _ => none
  | n + 1, v_o_whole, d_o_weights, x1 => (if (9 : Int32) < x1 then some ((1 : Int64), (vp_updL d_o_weights (((0 : Int32)).toNatClampNeg) (1 : Int64))) else (if x1 < 0 ∨ 10 ≤ (x1).toNatClampNeg then none else fX2_begin_2 n v_o_whole (vp_updL d_o_weights ((x1).toNatClampNeg) (0 : Int64)) (x1 + (1 : Int32))))
set_option maxRecDepth 100000 in
set_option maxHeartbeats 4000000 in
theorem tX2_begin_2 {p : Program} {l : Launch} {e : Env} {s : State} {m : MethodId} {args : Array Value} {below : List Frame} {meth : Method} {c : Code} {D : va_G} {cI cJ cZ cB : ClassId} {a_o : Nat} {a_o_weights : Nat} {A : Nat → Prop} (C : Cx p s m args meth c cX2_begin 2 none wsX2_begin RX2) (hK : Kw D (tyL cI cJ cZ cB) s) (hA : ∀ q : Nat, s.heap.size ≤ q → A q) : ∀ (n : Nat), ∀ (v_o_whole : Int64) (d_o_weights : (Nat → Int64)) (x1 : Int32) (H : Heap) (locs : List Loc) (ls : Array Slot) (res : Int64 × (Nat → Int64)), va_P D vwCl (WX2_begin cI cJ cZ cB a_o a_o_weights v_o_whole d_o_weights) H → va_D A (WX2_begin cI cJ cZ cB a_o a_o_weights v_o_whole d_o_weights) → va_S A s.heap H locs → lv_has ls 2 [(0, .ref a_o), (1, .int x1)] → fX2_begin_2 n v_o_whole d_o_weights x1 = some res → W p l e ({ frames := 0, cells := 0, slots := 0, locals := 0 } : Room) s m args below meth c H locs 0 0 (MQ below (QRw D A (WX2_begin cI cJ cZ cB a_o a_o_weights res.1 res.2) none) args s 0 0 A) (F0 m 2 ls []) := by
  obtain ⟨hx, hb, hr, hml, hts, hown, hlk⟩ := id C
  intro n
  induction n with
  | zero =>
    intro v_o_whole d_o_weights x1 H locs ls res hP hD hS hl hf
    rw [fX2_begin_2] at hf
    cases hf
  | succ n ih =>
    intro v_o_whole d_o_weights x1 H locs ls res hP hD hS hl hf
    rw [fX2_begin_2] at hf
    refine lv_iload_n hx hb dX2_begin_2 rfl (lv_at hl 1 rfl) ?_
    refine lv_bipush (v := (9 : Int32)) hx hb dX2_begin_3 (by decide) ?_
    refine lv_icmp_gt (tgt := 21) hx hb dX2_begin_5 (by decide) (fun hc => ?_) (fun hc => ?_)
    · have hf := pf_t hc hf
      refine lv_aload_n hx hb dX2_begin_21 rfl (lv_at hl 0 rfl) ?_
      refine va_get (D := D) (ci := 2) (v := .ref a_o_weights) (C := RX2) (T := TX2) (N := 2) hx hb hts iX2_begin_X2 hown hK.1 hP 0 rfl rfl 0 (by decide) (hts (.fieldLink RX2 9 "LoneSeats$Odds" "weights" "[J") (by decide +kernel)) (fun _ h9 => h9) rfl dX2_begin_22 ?_
      refine lv_iconst (v := (0 : Int32)) hx hb dX2_begin_25 (by decide) ?_
      refine lv_lconst (v := (1 : Int64)) hx hb dX2_begin_26 (by decide) ?_
      refine va_last hx hb hK.1 hP hD hS 1 1 rfl rfl (show ¬ ((0 : Int32) < 0 ∨ 10 ≤ ((0 : Int32)).toNatClampNeg) by decide) dX2_begin_27 (fun H locs hP hD hS => ?_)
      have hP : va_P D vwCl (WX2_begin cI cJ cZ cB a_o a_o_weights v_o_whole (vp_updL d_o_weights (((0 : Int32)).toNatClampNeg) (1 : Int64))) H := hP
      have hD : va_D A (WX2_begin cI cJ cZ cB a_o a_o_weights v_o_whole (vp_updL d_o_weights (((0 : Int32)).toNatClampNeg) (1 : Int64))) := hD
      refine lv_aload_n hx hb dX2_begin_28 rfl (lv_at hl 0 rfl) ?_
      refine lv_lconst (v := (1 : Int64)) hx hb dX2_begin_29 (by decide) ?_
      refine va_put (D := D) (ci := 2) (v := .long (1 : Int64)) (ty := .long) (C := RX2) (T := TX2) (N := 2) hx hb hts iX2_begin_X2 tyX2 tyX2_ok nmX2 hown hK.1 hP hD hS 0 rfl rfl 1 (by decide) (hts (.fieldLink RX2 15 "LoneSeats$Odds" "whole" "J") (by decide +kernel)) (fun _ h9 => h9) rfl (by decide +kernel) rfl rfl (Nat.le_of_ble_eq_true rfl) dX2_begin_30 (fun H locs hP hD hS => ?_)
      have hP : va_P D vwCl (WX2_begin cI cJ cZ cB a_o a_o_weights (1 : Int64) (vp_updL d_o_weights (((0 : Int32)).toNatClampNeg) (1 : Int64))) H := hP
      have hD : va_D A (WX2_begin cI cJ cZ cB a_o a_o_weights (1 : Int64) (vp_updL d_o_weights (((0 : Int32)).toNatClampNeg) (1 : Int64))) := hD
      cases hf
      exact W.vret hx hb hr (fun t ht hW => ⟨⟨rfl, by rw [ht]; exact hP, hD⟩, hS.F ht⟩) hS.2.2 dX2_begin_33
    · have hf := pf_f hc hf
      refine lv_aload_n hx hb dX2_begin_8 rfl (lv_at hl 0 rfl) ?_
      refine va_get (D := D) (ci := 2) (v := .ref a_o_weights) (C := RX2) (T := TX2) (N := 2) hx hb hts iX2_begin_X2 hown hK.1 hP 0 rfl rfl 0 (by decide) (hts (.fieldLink RX2 9 "LoneSeats$Odds" "weights" "[J") (by decide +kernel)) (fun _ h9 => h9) rfl dX2_begin_9 ?_
      refine lv_iload_n hx hb dX2_begin_12 rfl (lv_at hl 1 rfl) ?_
      refine lv_lconst (v := (0 : Int64)) hx hb dX2_begin_13 (by decide) ?_
      obtain ⟨hg1, hf⟩ := pf_x hf
      refine va_last hx hb hK.1 hP hD hS 1 1 rfl rfl hg1 dX2_begin_14 (fun H locs hP hD hS => ?_)
      have hP : va_P D vwCl (WX2_begin cI cJ cZ cB a_o a_o_weights v_o_whole (vp_updL d_o_weights ((x1).toNatClampNeg) (0 : Int64))) H := hP
      have hD : va_D A (WX2_begin cI cJ cZ cB a_o a_o_weights v_o_whole (vp_updL d_o_weights ((x1).toNatClampNeg) (0 : Int64))) := hD
      refine lv_iinc (v := (x1 + (1 : Int32))) (lv' := [(1, .int (x1 + (1 : Int32))), (0, .ref a_o)]) hx hb dX2_begin_15 hl (k := 1) rfl rfl (by decide) rfl (fun ls hl => ?_)
      refine lv_goto (tgt := 2) hx hb dX2_begin_18 (by decide) ?_
      exact ih v_o_whole (vp_updL d_o_weights ((x1).toNatClampNeg) (0 : Int64)) (x1 + (1 : Int32)) _ _ ls _ hP hD hS (lv_sub hl [1, 0] rfl) hf
def fX2_begin (v_o_whole : Int64) (d_o_weights : (Nat → Int64)) : Option (Int64 × (Nat → Int64)) := fX2_begin_2 FU v_o_whole d_o_weights (0 : Int32)
set_option maxRecDepth 100000 in
set_option maxHeartbeats 4000000 in
theorem kX2_begin (l : Launch) (D : va_G) (cI cJ cZ cB : ClassId) (a_o : Nat) (a_o_weights : Nat) (v_o_whole : Int64) (d_o_weights : (Nat → Int64)) (res : Int64 × (Nat → Int64)) (hf : fX2_begin v_o_whole d_o_weights = some res) : Rw l yX2_begin wsX2_begin ({ frames := 0, cells := 0, slots := 0, locals := 0 } : Room) D (tyL cI cJ cZ cB) [.ref a_o] (WX2_begin cI cJ cZ cB a_o a_o_weights v_o_whole d_o_weights) none (WX2_begin cI cJ cZ cB a_o a_o_weights res.1 res.2) := by
  refine Rw.of (cc := cX2_begin) (maxL := 2) (ret := none) (own := RX2) (by decide) rfl rfl (Nat.le_of_ble_eq_true rfl) ?_
  intro p e s m below meth c A ls C hK hA hP hD hS hl
  obtain ⟨hx, hb, hr, hml, hts, hown, hlk⟩ := id C
  have hl : lv_has ls 2 [(0, .ref a_o)] := hl
  unfold fX2_begin at hf
  refine lv_iconst (v := (0 : Int32)) hx hb dX2_begin_0 (by decide) ?_
  refine lv_istore_n (lv' := [(1, .int (0 : Int32)), (0, .ref a_o)]) hx hb dX2_begin_1 rfl hl (by decide) rfl (fun ls hl => ?_)
  exact tX2_begin_2 C hK hA  FU v_o_whole d_o_weights (0 : Int32) _ _ ls _ hP hD hS (lv_sub hl [1, 0] rfl) hf
abbrev WX2_add (cI cJ cZ cB : ClassId) (a_o : Nat) (a_o_weights : Nat) (v_o_whole : Int64) (d_o_weights : (Nat → Int64)) : va_W := [(a_o, .inr (2, [.ref a_o_weights, .long v_o_whole])), (a_o_weights, .inl (cJ, (10, .inr (.inl d_o_weights))))]
set_option maxRecDepth 20000 in
theorem iX2_add_X2 : ∀ w ∈ wsX20, w ∈ wsX2_add := by decide +kernel
def fX2_add_35 (k_8 : Int64 → (Nat → Int64) → Int32 → Int32 → Int32 → Option (Int64 × (Nat → Int64))) (v_o_whole : Int64) (d_o_weights : (Nat → Int64)) (x1 : Int32) (x2 : Int32) (x3 : Int32) (k0 : Int64) : Option (Int64 × (Nat → Int64)) := (if x3 < 0 ∨ 10 ≤ (x3).toNatClampNeg then none else (if x3 < 0 ∨ 10 ≤ (x3).toNatClampNeg then none else k_8 v_o_whole (vp_updL d_o_weights ((x3).toNatClampNeg) (((d_o_weights (x3).toNatClampNeg) * (x2).toInt64) + k0)) x1 x2 (x3 + (-1 : Int32))))
set_option maxRecDepth 100000 in
set_option maxHeartbeats 4000000 in
theorem tX2_add_35 {p : Program} {l : Launch} {e : Env} {s : State} {m : MethodId} {args : Array Value} {below : List Frame} {meth : Method} {c : Code} {D : va_G} {cI cJ cZ cB : ClassId} {a_o : Nat} {a_o_weights : Nat} {A : Nat → Prop} (C : Cx p s m args meth c cX2_add 6 none wsX2_add RX2) (hK : Kw D (tyL cI cJ cZ cB) s) (hA : ∀ q : Nat, s.heap.size ≤ q → A q) {k_8 : Int64 → (Nat → Int64) → Int32 → Int32 → Int32 → Option (Int64 × (Nat → Int64))} (hk8 : ∀ (v_o_whole : Int64) (d_o_weights : (Nat → Int64)) (x1 : Int32) (x2 : Int32) (x3 : Int32) (H : Heap) (locs : List Loc) (ls : Array Slot) (res : Int64 × (Nat → Int64)), va_P D vwCl (WX2_add cI cJ cZ cB a_o a_o_weights v_o_whole d_o_weights) H → va_D A (WX2_add cI cJ cZ cB a_o a_o_weights v_o_whole d_o_weights) → va_S A s.heap H locs → lv_has ls 6 [(0, .ref a_o), (1, .int x1), (2, .int x2), (3, .int x3)] → k_8 v_o_whole d_o_weights x1 x2 x3 = some res → W p l e ({ frames := 0, cells := 0, slots := 0, locals := 0 } : Room) s m args below meth c H locs 0 0 (MQ below (QRw D A (WX2_add cI cJ cZ cB a_o a_o_weights res.1 res.2) none) args s 0 0 A) (F0 m 8 ls [])) : ∀ (v_o_whole : Int64) (d_o_weights : (Nat → Int64)) (x1 : Int32) (x2 : Int32) (x3 : Int32) (k0 : Int64) (H : Heap) (locs : List Loc) (ls : Array Slot) (res : Int64 × (Nat → Int64)), va_P D vwCl (WX2_add cI cJ cZ cB a_o a_o_weights v_o_whole d_o_weights) H → va_D A (WX2_add cI cJ cZ cB a_o a_o_weights v_o_whole d_o_weights) → va_S A s.heap H locs → lv_has ls 6 [(0, .ref a_o), (1, .int x1), (2, .int x2), (3, .int x3)] → fX2_add_35 k_8 v_o_whole d_o_weights x1 x2 x3 k0 = some res → W p l e ({ frames := 0, cells := 0, slots := 0, locals := 0 } : Room) s m args below meth c H locs 0 0 (MQ below (QRw D A (WX2_add cI cJ cZ cB a_o a_o_weights res.1 res.2) none) args s 0 0 A) (F0 m 35 ls [.long k0]) := by
  obtain ⟨hx, hb, hr, hml, hts, hown, hlk⟩ := id C
  intro v_o_whole d_o_weights x1 x2 x3 k0 H locs ls res hP hD hS hl hf
  unfold fX2_add_35 at hf
  refine lv_lstore (lv' := [(4, .long k0), (0, .ref a_o), (1, .int x1), (2, .int x2), (3, .int x3)]) hx hb dX2_add_35 hl (by decide) rfl (fun ls hl => ?_)
  refine lv_aload_n hx hb dX2_add_37 rfl (lv_at hl 1 rfl) ?_
  refine va_get (D := D) (ci := 2) (v := .ref a_o_weights) (C := RX2) (T := TX2) (N := 2) hx hb hts iX2_add_X2 hown hK.1 hP 0 rfl rfl 0 (by decide) (hts (.fieldLink RX2 9 "LoneSeats$Odds" "weights" "[J") (by decide +kernel)) (fun _ h9 => h9) rfl dX2_add_38 ?_
  refine lv_iload_n hx hb dX2_add_41 rfl (lv_at hl 4 rfl) ?_
  refine lv_aload_n hx hb dX2_add_42 rfl (lv_at hl 1 rfl) ?_
  refine va_get (D := D) (ci := 2) (v := .ref a_o_weights) (C := RX2) (T := TX2) (N := 2) hx hb hts iX2_add_X2 hown hK.1 hP 0 rfl rfl 0 (by decide) (hts (.fieldLink RX2 9 "LoneSeats$Odds" "weights" "[J") (by decide +kernel)) (fun _ h9 => h9) rfl dX2_add_43 ?_
  refine lv_iload_n hx hb dX2_add_46 rfl (lv_at hl 4 rfl) ?_
  obtain ⟨hg1, hf⟩ := pf_x hf
  refine va_lald hx hb hK.1 hP 1 1 rfl rfl hg1 dX2_add_47 ?_
  refine lv_iload_n hx hb dX2_add_48 rfl (lv_at hl 3 rfl) ?_
  refine lv_i2l (v := (x2).toInt64) hx hb dX2_add_49 rfl ?_
  refine lv_lmul hx hb dX2_add_50 ?_
  refine lv_lload hx hb dX2_add_51 (lv_at hl 0 rfl) ?_
  refine lv_ladd hx hb dX2_add_53 ?_
  obtain ⟨hg2, hf⟩ := pf_x hf
  refine va_last hx hb hK.1 hP hD hS 1 1 rfl rfl hg2 dX2_add_54 (fun H locs hP hD hS => ?_)
  have hP : va_P D vwCl (WX2_add cI cJ cZ cB a_o a_o_weights v_o_whole (vp_updL d_o_weights ((x3).toNatClampNeg) (((d_o_weights (x3).toNatClampNeg) * (x2).toInt64) + k0))) H := hP
  have hD : va_D A (WX2_add cI cJ cZ cB a_o a_o_weights v_o_whole (vp_updL d_o_weights ((x3).toNatClampNeg) (((d_o_weights (x3).toNatClampNeg) * (x2).toInt64) + k0))) := hD
  refine lv_iinc (v := (x3 + (-1 : Int32))) (lv' := [(3, .int (x3 + (-1 : Int32))), (4, .long k0), (0, .ref a_o), (1, .int x1), (2, .int x2)]) hx hb dX2_add_55 hl (k := 4) rfl rfl (by decide) rfl (fun ls hl => ?_)
  refine lv_goto (tgt := 8) hx hb dX2_add_58 (by decide) ?_
  exact hk8 v_o_whole (vp_updL d_o_weights ((x3).toNatClampNeg) (((d_o_weights (x3).toNatClampNeg) * (x2).toInt64) + k0)) x1 x2 (x3 + (-1 : Int32)) _ _ ls _ hP hD hS (lv_sub hl [2, 3, 4, 0] rfl) hf
def fX2_add_8 : Nat → Int64 → (Nat → Int64) → Int32 → Int32 → Int32 → Option (Int64 × (Nat → Int64))
  | 0, _, _, _, _, _ => none
  | n + 1, v_o_whole, d_o_weights, x1, x2, x3 => (if x3 < 0 then some ((v_o_whole * (10 : Int64)), d_o_weights) else (if x3 < x1 then fX2_add_35 (fX2_add_8 n) v_o_whole d_o_weights x1 x2 x3 (0 : Int64) else (if (x3 - x1) < 0 ∨ 10 ≤ ((x3 - x1)).toNatClampNeg then none else fX2_add_35 (fX2_add_8 n) v_o_whole d_o_weights x1 x2 x3 ((d_o_weights ((x3 - x1)).toNatClampNeg) * (((10 : Int32) - x2)).toInt64))))
set_option maxRecDepth 100000 in
set_option maxHeartbeats 4000000 in
theorem tX2_add_8 {p : Program} {l : Launch} {e : Env} {s : State} {m : MethodId} {args : Array Value} {below : List Frame} {meth : Method} {c : Code} {D : va_G} {cI cJ cZ cB : ClassId} {a_o : Nat} {a_o_weights : Nat} {A : Nat → Prop} (C : Cx p s m args meth c cX2_add 6 none wsX2_add RX2) (hK : Kw D (tyL cI cJ cZ cB) s) (hA : ∀ q : Nat, s.heap.size ≤ q → A q) : ∀ (n : Nat), ∀ (v_o_whole : Int64) (d_o_weights : (Nat → Int64)) (x1 : Int32) (x2 : Int32) (x3 : Int32) (H : Heap) (locs : List Loc) (ls : Array Slot) (res : Int64 × (Nat → Int64)), va_P D vwCl (WX2_add cI cJ cZ cB a_o a_o_weights v_o_whole d_o_weights) H → va_D A (WX2_add cI cJ cZ cB a_o a_o_weights v_o_whole d_o_weights) → va_S A s.heap H locs → lv_has ls 6 [(0, .ref a_o), (1, .int x1), (2, .int x2), (3, .int x3)] → fX2_add_8 n v_o_whole d_o_weights x1 x2 x3 = some res → W p l e ({ frames := 0, cells := 0, slots := 0, locals := 0 } : Room) s m args below meth c H locs 0 0 (MQ below (QRw D A (WX2_add cI cJ cZ cB a_o a_o_weights res.1 res.2) none) args s 0 0 A) (F0 m 8 ls []) := by
  obtain ⟨hx, hb, hr, hml, hts, hown, hlk⟩ := id C
  intro n
  induction n with
  | zero =>
    intro v_o_whole d_o_weights x1 x2 x3 H locs ls res hP hD hS hl hf
    rw [fX2_add_8] at hf
    cases hf
  | succ n ih =>
    intro v_o_whole d_o_weights x1 x2 x3 H locs ls res hP hD hS hl hf
    rw [fX2_add_8] at hf
    refine lv_iload_n hx hb dX2_add_8 rfl (lv_at hl 3 rfl) ?_
    refine lv_if_lt (tgt := 61) hx hb dX2_add_9 (by decide) (fun hc => ?_) (fun hc => ?_)
    · have hf := pf_t hc hf
      refine lv_aload_n hx hb dX2_add_61 rfl (lv_at hl 0 rfl) ?_
      refine lv_dup hx hb dX2_add_62 rfl ?_
      refine va_get (D := D) (ci := 2) (v := .long v_o_whole) (C := RX2) (T := TX2) (N := 2) hx hb hts iX2_add_X2 hown hK.1 hP 0 rfl rfl 1 (by decide) (hts (.fieldLink RX2 15 "LoneSeats$Odds" "whole" "J") (by decide +kernel)) (fun _ h9 => h9) rfl dX2_add_63 ?_
      refine lv_ldc2 (v := (10 : Int64)) hx hb hown (hts (.constantLong RX2 19 (10 : Int64)) (by decide +kernel)) dX2_add_66 ?_
      refine lv_lmul hx hb dX2_add_69 ?_
      refine va_put (D := D) (ci := 2) (v := .long (v_o_whole * (10 : Int64))) (ty := .long) (C := RX2) (T := TX2) (N := 2) hx hb hts iX2_add_X2 tyX2 tyX2_ok nmX2 hown hK.1 hP hD hS 0 rfl rfl 1 (by decide) (hts (.fieldLink RX2 15 "LoneSeats$Odds" "whole" "J") (by decide +kernel)) (fun _ h9 => h9) rfl (by decide +kernel) rfl rfl (Nat.le_of_ble_eq_true rfl) dX2_add_70 (fun H locs hP hD hS => ?_)
      have hP : va_P D vwCl (WX2_add cI cJ cZ cB a_o a_o_weights (v_o_whole * (10 : Int64)) d_o_weights) H := hP
      have hD : va_D A (WX2_add cI cJ cZ cB a_o a_o_weights (v_o_whole * (10 : Int64)) d_o_weights) := hD
      cases hf
      exact W.vret hx hb hr (fun t ht hW => ⟨⟨rfl, by rw [ht]; exact hP, hD⟩, hS.F ht⟩) hS.2.2 dX2_add_73
    · have hf := pf_f hc hf
      refine lv_iload_n hx hb dX2_add_12 rfl (lv_at hl 3 rfl) ?_
      refine lv_iload_n hx hb dX2_add_13 rfl (lv_at hl 1 rfl) ?_
      refine lv_icmp_lt (tgt := 34) hx hb dX2_add_14 (by decide) (fun hc => ?_) (fun hc => ?_)
      · have hf := pf_t hc hf
        refine lv_lconst (v := (0 : Int64)) hx hb dX2_add_34 (by decide) ?_
        exact tX2_add_35 C hK hA ih v_o_whole d_o_weights x1 x2 x3 (0 : Int64) _ _ ls _ hP hD hS (lv_sub hl [0, 1, 2, 3] rfl) hf
      · have hf := pf_f hc hf
        refine lv_aload_n hx hb dX2_add_17 rfl (lv_at hl 0 rfl) ?_
        refine va_get (D := D) (ci := 2) (v := .ref a_o_weights) (C := RX2) (T := TX2) (N := 2) hx hb hts iX2_add_X2 hown hK.1 hP 0 rfl rfl 0 (by decide) (hts (.fieldLink RX2 9 "LoneSeats$Odds" "weights" "[J") (by decide +kernel)) (fun _ h9 => h9) rfl dX2_add_18 ?_
        refine lv_iload_n hx hb dX2_add_21 rfl (lv_at hl 3 rfl) ?_
        refine lv_iload_n hx hb dX2_add_22 rfl (lv_at hl 1 rfl) ?_
        refine lv_isub hx hb dX2_add_23 ?_
        obtain ⟨hg1, hf⟩ := pf_x hf
        refine va_lald hx hb hK.1 hP 1 1 rfl rfl hg1 dX2_add_24 ?_
        refine lv_bipush (v := (10 : Int32)) hx hb dX2_add_25 (by decide) ?_
        refine lv_iload_n hx hb dX2_add_27 rfl (lv_at hl 2 rfl) ?_
        refine lv_isub hx hb dX2_add_28 ?_
        refine lv_i2l (v := (((10 : Int32) - x2)).toInt64) hx hb dX2_add_29 rfl ?_
        refine lv_lmul hx hb dX2_add_30 ?_
        refine lv_goto (tgt := 35) hx hb dX2_add_31 (by decide) ?_
        exact tX2_add_35 C hK hA ih v_o_whole d_o_weights x1 x2 x3 ((d_o_weights ((x3 - x1)).toNatClampNeg) * (((10 : Int32) - x2)).toInt64) _ _ ls _ hP hD hS (lv_sub hl [0, 1, 2, 3] rfl) hf
def fX2_add (v_o_whole : Int64) (d_o_weights : (Nat → Int64)) (x1 : Int32) (x2 : Int32) : Option (Int64 × (Nat → Int64)) := (if 0 ≤ x1 then fX2_add_8 FU v_o_whole d_o_weights x1 x2 (9 : Int32) else some (v_o_whole, d_o_weights))
set_option maxRecDepth 100000 in
set_option maxHeartbeats 4000000 in
theorem kX2_add (l : Launch) (D : va_G) (cI cJ cZ cB : ClassId) (a_o : Nat) (a_o_weights : Nat) (v_o_whole : Int64) (d_o_weights : (Nat → Int64)) (x1 : Int32) (x2 : Int32) (res : Int64 × (Nat → Int64)) (hf : fX2_add v_o_whole d_o_weights x1 x2 = some res) : Rw l yX2_add wsX2_add ({ frames := 0, cells := 0, slots := 0, locals := 0 } : Room) D (tyL cI cJ cZ cB) [.ref a_o, .int x1, .int x2] (WX2_add cI cJ cZ cB a_o a_o_weights v_o_whole d_o_weights) none (WX2_add cI cJ cZ cB a_o a_o_weights res.1 res.2) := by
  refine Rw.of (cc := cX2_add) (maxL := 6) (ret := none) (own := RX2) (by decide) rfl rfl (Nat.le_of_ble_eq_true rfl) ?_
  intro p e s m below meth c A ls C hK hA hP hD hS hl
  obtain ⟨hx, hb, hr, hml, hts, hown, hlk⟩ := id C
  have hl : lv_has ls 6 [(0, .ref a_o), (1, .int x1), (2, .int x2)] := hl
  unfold fX2_add at hf
  refine lv_iload_n hx hb dX2_add_0 rfl (lv_at hl 1 rfl) ?_
  refine lv_if_ge (tgt := 5) hx hb dX2_add_1 (by decide) (fun hc => ?_) (fun hc => ?_)
  · have hf := pf_t hc hf
    refine lv_bipush (v := (9 : Int32)) hx hb dX2_add_5 (by decide) ?_
    refine lv_istore_n (lv' := [(3, .int (9 : Int32)), (0, .ref a_o), (1, .int x1), (2, .int x2)]) hx hb dX2_add_7 rfl hl (by decide) rfl (fun ls hl => ?_)
    exact tX2_add_8 C hK hA  FU v_o_whole d_o_weights x1 x2 (9 : Int32) _ _ ls _ hP hD hS (lv_sub hl [1, 2, 3, 0] rfl) hf
  · have hf := pf_f hc hf
    cases hf
    exact W.vret hx hb hr (fun t ht hW => ⟨⟨rfl, by rw [ht]; exact hP, hD⟩, hS.F ht⟩) hS.2.2 dX2_add_4
abbrev WX2_whole (cI cJ cZ cB : ClassId) (a_o : Nat) (a_o_weights : Nat) (v_o_whole : Int64) : va_W := [(a_o, .inr (2, [.ref a_o_weights, .long v_o_whole]))]
set_option maxRecDepth 20000 in
theorem iX2_whole_X2 : ∀ w ∈ wsX20, w ∈ wsX2_whole := by decide +kernel
def fX2_whole (v_o_whole : Int64) : Option (Int64) := some v_o_whole
set_option maxRecDepth 100000 in
set_option maxHeartbeats 4000000 in
theorem kX2_whole (l : Launch) (D : va_G) (cI cJ cZ cB : ClassId) (a_o : Nat) (a_o_weights : Nat) (v_o_whole : Int64) (res : Int64) (hf : fX2_whole v_o_whole = some res) : Ro l yX2_whole wsX2_whole ({ frames := 0, cells := 0, slots := 0, locals := 0 } : Room) D (tyL cI cJ cZ cB) [.ref a_o] (WX2_whole cI cJ cZ cB a_o a_o_weights v_o_whole) (some (.long res)) := by
  refine Ro.of (cc := cX2_whole) (maxL := 1) (ret := (some .long)) (own := RX2) (by decide) rfl rfl (Nat.le_of_ble_eq_true rfl) ?_
  intro p e s m below meth c ls C hK hP hl
  obtain ⟨hx, hb, hr, hml, hts, hown, hlk⟩ := id C
  have hl : lv_has ls 1 [(0, .ref a_o)] := hl
  unfold fX2_whole at hf
  refine lv_aload_n hx hb dX2_whole_0 rfl (lv_at hl 0 rfl) ?_
  refine va_get (D := D) (ci := 2) (v := .long v_o_whole) (C := RX2) (T := TX2) (N := 2) hx hb hts iX2_whole_X2 hown hK.1 hP 0 rfl rfl 1 (by decide) (hts (.fieldLink RX2 15 "LoneSeats$Odds" "whole" "J") (by decide +kernel)) (fun _ h9 => h9) rfl dX2_whole_1 ?_
  cases hf
  exact W.lret hx hb hr (fun t ht hW => ⟨rfl, ht⟩) (fun _ h => absurd h List.not_mem_nil) dX2_whole_4
abbrev WX2_atLeast (cI cJ cZ cB : ClassId) (a_o : Nat) (a_o_weights : Nat) (v_o_whole : Int64) (d_o_weights : (Nat → Int64)) : va_W := [(a_o, .inr (2, [.ref a_o_weights, .long v_o_whole])), (a_o_weights, .inl (cJ, (10, .inr (.inl d_o_weights))))]
set_option maxRecDepth 20000 in
theorem iX2_atLeast_X2 : ∀ w ∈ wsX20, w ∈ wsX2_atLeast := by decide +kernel
def fX2_atLeast_9 : Nat → (Nat → Int64) → Int64 → Int32 → Option (Int64)
  | 0, _, _, _ => none
  | n + 1, d_o_weights, x2, x4 => (if (9 : Int32) < x4 then some x2 else (if x4 < 0 ∨ 10 ≤ (x4).toNatClampNeg then none else fX2_atLeast_9 n d_o_weights (x2 + (d_o_weights (x4).toNatClampNeg)) (x4 + (1 : Int32))))
set_option maxRecDepth 100000 in
set_option maxHeartbeats 4000000 in
theorem tX2_atLeast_9 {p : Program} {l : Launch} {e : Env} {s : State} {m : MethodId} {args : Array Value} {below : List Frame} {meth : Method} {c : Code} {D : va_G} {cI cJ cZ cB : ClassId} {a_o : Nat} {a_o_weights : Nat} (C : Cx p s m args meth c cX2_atLeast 5 (some .long) wsX2_atLeast RX2) (hK : Kw D (tyL cI cJ cZ cB) s) : ∀ (n : Nat), ∀ (v_o_whole : Int64) (d_o_weights : (Nat → Int64)) (x2 : Int64) (x4 : Int32) (ls : Array Slot) (res : Int64), va_P D vwCl (WX2_atLeast cI cJ cZ cB a_o a_o_weights v_o_whole d_o_weights) s.heap → lv_has ls 5 [(0, .ref a_o), (2, .long x2), (4, .int x4)] → fX2_atLeast_9 n d_o_weights x2 x4 = some res → W p l e ({ frames := 1, cells := 0, slots := 0, locals := 21 } : Room) s m args below meth c s.heap [] 0 0 (MQ below (QRo (some (.long res))) args s 0 0 (fun _ => False)) (F0 m 9 ls []) := by
  obtain ⟨hx, hb, hr, hml, hts, hown, hlk⟩ := id C
  intro n
  induction n with
  | zero =>
    intro v_o_whole d_o_weights x2 x4 ls res hP hl hf
    rw [fX2_atLeast_9] at hf
    cases hf
  | succ n ih =>
    intro v_o_whole d_o_weights x2 x4 ls res hP hl hf
    rw [fX2_atLeast_9] at hf
    refine lv_iload hx hb dX2_atLeast_9 (lv_at hl 2 rfl) ?_
    refine lv_bipush (v := (9 : Int32)) hx hb dX2_atLeast_11 (by decide) ?_
    refine lv_icmp_gt (tgt := 32) hx hb dX2_atLeast_13 (by decide) (fun hc => ?_) (fun hc => ?_)
    · have hf := pf_t hc hf
      refine lv_lload_n hx hb dX2_atLeast_32 rfl (lv_at hl 1 rfl) ?_
      cases hf
      exact W.lret hx hb hr (fun t ht hW => ⟨rfl, ht⟩) (fun _ h => absurd h List.not_mem_nil) dX2_atLeast_33
    · have hf := pf_f hc hf
      refine lv_lload_n hx hb dX2_atLeast_16 rfl (lv_at hl 1 rfl) ?_
      refine lv_aload_n hx hb dX2_atLeast_17 rfl (lv_at hl 0 rfl) ?_
      refine va_get (D := D) (ci := 2) (v := .ref a_o_weights) (C := RX2) (T := TX2) (N := 2) hx hb hts iX2_atLeast_X2 hown hK.1 hP 0 rfl rfl 0 (by decide) (hts (.fieldLink RX2 9 "LoneSeats$Odds" "weights" "[J") (by decide +kernel)) (fun _ h9 => h9) rfl dX2_atLeast_18 ?_
      refine lv_iload hx hb dX2_atLeast_21 (lv_at hl 2 rfl) ?_
      obtain ⟨hg1, hf⟩ := pf_x hf
      refine va_lald hx hb hK.1 hP 1 1 rfl rfl hg1 dX2_atLeast_23 ?_
      refine lv_ladd hx hb dX2_atLeast_24 ?_
      refine lv_lstore_n (lv' := [(2, .long (x2 + (d_o_weights (x4).toNatClampNeg))), (0, .ref a_o), (4, .int x4)]) hx hb dX2_atLeast_25 rfl hl (by decide) rfl (fun ls hl => ?_)
      refine lv_iinc (v := (x4 + (1 : Int32))) (lv' := [(4, .int (x4 + (1 : Int32))), (2, .long (x2 + (d_o_weights (x4).toNatClampNeg))), (0, .ref a_o)]) hx hb dX2_atLeast_26 hl (k := 2) rfl rfl (by decide) rfl (fun ls hl => ?_)
      refine lv_goto (tgt := 9) hx hb dX2_atLeast_29 (by decide) ?_
      exact ih v_o_whole d_o_weights (x2 + (d_o_weights (x4).toNatClampNeg)) (x4 + (1 : Int32)) ls _ hP (lv_sub hl [2, 1, 0] rfl) hf
def fX2_atLeast (d_o_weights : (Nat → Int64)) (x1 : Int32) : Option (Int64) := fX2_atLeast_9 FU d_o_weights (0 : Int64) (if (0 : Int32) < x1 then x1 else (0 : Int32))
set_option maxRecDepth 100000 in
set_option maxHeartbeats 4000000 in
theorem kX2_atLeast (l : Launch) (D : va_G) (cI cJ cZ cB : ClassId) (a_o : Nat) (a_o_weights : Nat) (v_o_whole : Int64) (d_o_weights : (Nat → Int64)) (x1 : Int32) (res : Int64) (hf : fX2_atLeast d_o_weights x1 = some res) : Ro l yX2_atLeast wsX2_atLeast ({ frames := 1, cells := 0, slots := 0, locals := 21 } : Room) D (tyL cI cJ cZ cB) [.ref a_o, .int x1] (WX2_atLeast cI cJ cZ cB a_o a_o_weights v_o_whole d_o_weights) (some (.long res)) := by
  refine Ro.of (cc := cX2_atLeast) (maxL := 5) (ret := (some .long)) (own := RX2) (by decide) rfl rfl (Nat.le_of_ble_eq_true rfl) ?_
  intro p e s m below meth c ls C hK hP hl
  obtain ⟨hx, hb, hr, hml, hts, hown, hlk⟩ := id C
  have hl : lv_has ls 5 [(0, .ref a_o), (1, .int x1)] := hl
  unfold fX2_atLeast at hf
  refine lv_lconst (v := (0 : Int64)) hx hb dX2_atLeast_0 (by decide) ?_
  refine lv_lstore_n (lv' := [(2, .long (0 : Int64)), (0, .ref a_o), (1, .int x1)]) hx hb dX2_atLeast_1 rfl hl (by decide) rfl (fun ls hl => ?_)
  refine lv_iconst (v := (0 : Int32)) hx hb dX2_atLeast_2 (by decide) ?_
  refine lv_iload_n hx hb dX2_atLeast_3 rfl (lv_at hl 2 rfl) ?_
  refine va_mmax (x := (0 : Int32)) (y := x1) hx hb (hml.trans hl.1.symm) hown (hts (.methodLink RX2 21 Lib.Math.max.name) (by decide +kernel)) (hts (.static Lib.Math.max.name) (by decide +kernel)) (hts (.initialized "java/lang/Math") (by decide +kernel)) (hts (.code Lib.Math.max.name Lib.Math.max.code 2 (some .int)) (by decide +kernel)) (Nat.le_of_ble_eq_true rfl) (Nat.le_of_ble_eq_true rfl) (Nat.zero_le _) (Nat.zero_le _) dX2_atLeast_4 ?_
  refine lv_istore (lv' := [(4, .int (if (0 : Int32) < x1 then x1 else (0 : Int32))), (2, .long (0 : Int64)), (0, .ref a_o), (1, .int x1)]) hx hb dX2_atLeast_7 hl (by decide) rfl (fun ls hl => ?_)
  exact tX2_atLeast_9 C hK  FU v_o_whole d_o_weights (0 : Int64) (if (0 : Int32) < x1 then x1 else (0 : Int32)) ls _ hP (lv_sub hl [2, 1, 0] rfl) hf
abbrev WX3_acts (cI cJ cZ cB : ClassId) (a_o : Nat) (a_o_ring : Nat) (v_o_next : Int32) (v_o_acts : Int32) : va_W := [(a_o, .inr (3, [.ref a_o_ring, .int v_o_next, .int v_o_acts]))]
set_option maxRecDepth 20000 in
theorem iX3_acts_X3 : ∀ w ∈ wsX30, w ∈ wsX3_acts := by decide +kernel
def fX3_acts (v_o_acts : Int32) : Option (Int32) := some v_o_acts
set_option maxRecDepth 100000 in
set_option maxHeartbeats 4000000 in
theorem kX3_acts (l : Launch) (D : va_G) (cI cJ cZ cB : ClassId) (a_o : Nat) (a_o_ring : Nat) (v_o_next : Int32) (v_o_acts : Int32) (res : Int32) (hf : fX3_acts v_o_acts = some res) : Ro l yX3_acts wsX3_acts ({ frames := 0, cells := 0, slots := 0, locals := 0 } : Room) D (tyL cI cJ cZ cB) [.ref a_o] (WX3_acts cI cJ cZ cB a_o a_o_ring v_o_next v_o_acts) (some (.int res)) := by
  refine Ro.of (cc := cX3_acts) (maxL := 1) (ret := (some .int)) (own := RX3) (by decide) rfl rfl (Nat.le_of_ble_eq_true rfl) ?_
  intro p e s m below meth c ls C hK hP hl
  obtain ⟨hx, hb, hr, hml, hts, hown, hlk⟩ := id C
  have hl : lv_has ls 1 [(0, .ref a_o)] := hl
  unfold fX3_acts at hf
  refine lv_aload_n hx hb dX3_acts_0 rfl (lv_at hl 0 rfl) ?_
  refine va_get (D := D) (ci := 3) (v := .int v_o_acts) (C := RX3) (T := TX3) (N := 3) hx hb hts iX3_acts_X3 hown hK.1 hP 0 rfl rfl 2 (by decide) (hts (.fieldLink RX3 18 "LoneSeats$Past" "acts" "I") (by decide +kernel)) (fun _ h9 => h9) rfl dX3_acts_1 ?_
  cases hf
  exact W.iret hx hb hr (fun t ht hW => ⟨rfl, ht⟩) (fun _ h => absurd h List.not_mem_nil) dX3_acts_4
abbrev WX3_clear (cI cJ cZ cB : ClassId) (a_o : Nat) (a_o_ring : Nat) (v_o_next : Int32) (v_o_acts : Int32) : va_W := [(a_o, .inr (3, [.ref a_o_ring, .int v_o_next, .int v_o_acts]))]
set_option maxRecDepth 20000 in
theorem iX3_clear_X3 : ∀ w ∈ wsX30, w ∈ wsX3_clear := by decide +kernel
def fX3_clear (v_o_acts : Int32) : Option (Int32) := some (0 : Int32)
set_option maxRecDepth 100000 in
set_option maxHeartbeats 4000000 in
theorem kX3_clear (l : Launch) (D : va_G) (cI cJ cZ cB : ClassId) (a_o : Nat) (a_o_ring : Nat) (v_o_next : Int32) (v_o_acts : Int32) (res : Int32) (hf : fX3_clear v_o_acts = some res) : Rw l yX3_clear wsX3_clear ({ frames := 0, cells := 0, slots := 0, locals := 0 } : Room) D (tyL cI cJ cZ cB) [.ref a_o] (WX3_clear cI cJ cZ cB a_o a_o_ring v_o_next v_o_acts) none (WX3_clear cI cJ cZ cB a_o a_o_ring v_o_next res) := by
  refine Rw.of (cc := cX3_clear) (maxL := 1) (ret := none) (own := RX3) (by decide) rfl rfl (Nat.le_of_ble_eq_true rfl) ?_
  intro p e s m below meth c A ls C hK hA hP hD hS hl
  obtain ⟨hx, hb, hr, hml, hts, hown, hlk⟩ := id C
  have hl : lv_has ls 1 [(0, .ref a_o)] := hl
  unfold fX3_clear at hf
  refine lv_aload_n hx hb dX3_clear_0 rfl (lv_at hl 0 rfl) ?_
  refine lv_iconst (v := (0 : Int32)) hx hb dX3_clear_1 (by decide) ?_
  refine va_put (D := D) (ci := 3) (v := .int (0 : Int32)) (ty := .int) (C := RX3) (T := TX3) (N := 3) hx hb hts iX3_clear_X3 tyX3 tyX3_ok nmX3 hown hK.1 hP hD hS 0 rfl rfl 2 (by decide) (hts (.fieldLink RX3 18 "LoneSeats$Past" "acts" "I") (by decide +kernel)) (fun _ h9 => h9) rfl (by decide +kernel) rfl rfl (Nat.le_of_ble_eq_true rfl) dX3_clear_2 (fun H locs hP hD hS => ?_)
  have hP : va_P D vwCl (WX3_clear cI cJ cZ cB a_o a_o_ring v_o_next (0 : Int32)) H := hP
  have hD : va_D A (WX3_clear cI cJ cZ cB a_o a_o_ring v_o_next (0 : Int32)) := hD
  cases hf
  exact W.vret hx hb hr (fun t ht hW => ⟨⟨rfl, by rw [ht]; exact hP, hD⟩, hS.F ht⟩) hS.2.2 dX3_clear_5
abbrev WX7_length (cI cJ cZ cB : ClassId) (a_o : Nat) (a_o_letters : Nat) (v_o_length : Int32) : va_W := [(a_o, .inr (7, [.ref a_o_letters, .int v_o_length]))]
set_option maxRecDepth 20000 in
theorem iX7_length_X7 : ∀ w ∈ wsX70, w ∈ wsX7_length := by decide +kernel
def fX7_length (v_o_length : Int32) : Option (Int32) := some v_o_length
set_option maxRecDepth 100000 in
set_option maxHeartbeats 4000000 in
theorem kX7_length (l : Launch) (D : va_G) (cI cJ cZ cB : ClassId) (a_o : Nat) (a_o_letters : Nat) (v_o_length : Int32) (res : Int32) (hf : fX7_length v_o_length = some res) : Ro l yX7_length wsX7_length ({ frames := 0, cells := 0, slots := 0, locals := 0 } : Room) D (tyL cI cJ cZ cB) [.ref a_o] (WX7_length cI cJ cZ cB a_o a_o_letters v_o_length) (some (.int res)) := by
  refine Ro.of (cc := cX7_length) (maxL := 1) (ret := (some .int)) (own := RX7) (by decide) rfl rfl (Nat.le_of_ble_eq_true rfl) ?_
  intro p e s m below meth c ls C hK hP hl
  obtain ⟨hx, hb, hr, hml, hts, hown, hlk⟩ := id C
  have hl : lv_has ls 1 [(0, .ref a_o)] := hl
  unfold fX7_length at hf
  refine lv_aload_n hx hb dX7_length_0 rfl (lv_at hl 0 rfl) ?_
  refine va_get (D := D) (ci := 7) (v := .int v_o_length) (C := RX7) (T := TX7) (N := 2) hx hb hts iX7_length_X7 hown hK.1 hP 0 rfl rfl 1 (by decide) (hts (.fieldLink RX7 15 "LoneSeats$Text" "length" "I") (by decide +kernel)) (fun _ h9 => h9) rfl dX7_length_1 ?_
  cases hf
  exact W.iret hx hb hr (fun t ht hW => ⟨rfl, ht⟩) (fun _ h => absurd h List.not_mem_nil) dX7_length_4
abbrev WX7_letterAt (cI cJ cZ cB : ClassId) (a_o : Nat) (a_o_letters : Nat) (v_o_length : Int32) (d_o_letters : (Nat → Int32)) : va_W := [(a_o, .inr (7, [.ref a_o_letters, .int v_o_length])), (a_o_letters, .inl (cI, (80, .inl d_o_letters)))]
set_option maxRecDepth 20000 in
theorem iX7_letterAt_X7 : ∀ w ∈ wsX70, w ∈ wsX7_letterAt := by decide +kernel
def fX7_letterAt (v_o_length : Int32) (d_o_letters : (Nat → Int32)) (x1 : Int32) : Option (Int32) := (if x1 < 0 then some (-9 : Int32) else (if v_o_length ≤ x1 then some (-9 : Int32) else (if x1 < 0 ∨ 80 ≤ (x1).toNatClampNeg then none else some (d_o_letters (x1).toNatClampNeg))))
set_option maxRecDepth 100000 in
set_option maxHeartbeats 4000000 in
theorem kX7_letterAt (l : Launch) (D : va_G) (cI cJ cZ cB : ClassId) (a_o : Nat) (a_o_letters : Nat) (v_o_length : Int32) (d_o_letters : (Nat → Int32)) (x1 : Int32) (res : Int32) (hf : fX7_letterAt v_o_length d_o_letters x1 = some res) : Ro l yX7_letterAt wsX7_letterAt ({ frames := 0, cells := 0, slots := 0, locals := 0 } : Room) D (tyL cI cJ cZ cB) [.ref a_o, .int x1] (WX7_letterAt cI cJ cZ cB a_o a_o_letters v_o_length d_o_letters) (some (.int res)) := by
  refine Ro.of (cc := cX7_letterAt) (maxL := 2) (ret := (some .int)) (own := RX7) (by decide) rfl rfl (Nat.le_of_ble_eq_true rfl) ?_
  intro p e s m below meth c ls C hK hP hl
  obtain ⟨hx, hb, hr, hml, hts, hown, hlk⟩ := id C
  have hl : lv_has ls 2 [(0, .ref a_o), (1, .int x1)] := hl
  unfold fX7_letterAt at hf
  refine lv_iload_n hx hb dX7_letterAt_0 rfl (lv_at hl 1 rfl) ?_
  refine lv_if_lt (tgt := 21) hx hb dX7_letterAt_1 (by decide) (fun hc => ?_) (fun hc => ?_)
  · have hf := pf_t hc hf
    refine lv_bipush (v := (-9 : Int32)) hx hb dX7_letterAt_21 (by decide) ?_
    cases hf
    exact W.iret hx hb hr (fun t ht hW => ⟨rfl, ht⟩) (fun _ h => absurd h List.not_mem_nil) dX7_letterAt_23
  · have hf := pf_f hc hf
    refine lv_iload_n hx hb dX7_letterAt_4 rfl (lv_at hl 1 rfl) ?_
    refine lv_aload_n hx hb dX7_letterAt_5 rfl (lv_at hl 0 rfl) ?_
    refine va_get (D := D) (ci := 7) (v := .int v_o_length) (C := RX7) (T := TX7) (N := 2) hx hb hts iX7_letterAt_X7 hown hK.1 hP 0 rfl rfl 1 (by decide) (hts (.fieldLink RX7 15 "LoneSeats$Text" "length" "I") (by decide +kernel)) (fun _ h9 => h9) rfl dX7_letterAt_6 ?_
    refine lv_icmp_ge (tgt := 21) hx hb dX7_letterAt_9 (by decide) (fun hc => ?_) (fun hc => ?_)
    · have hf := pf_t hc hf
      refine lv_bipush (v := (-9 : Int32)) hx hb dX7_letterAt_21 (by decide) ?_
      cases hf
      exact W.iret hx hb hr (fun t ht hW => ⟨rfl, ht⟩) (fun _ h => absurd h List.not_mem_nil) dX7_letterAt_23
    · have hf := pf_f hc hf
      refine lv_aload_n hx hb dX7_letterAt_12 rfl (lv_at hl 0 rfl) ?_
      refine va_get (D := D) (ci := 7) (v := .ref a_o_letters) (C := RX7) (T := TX7) (N := 2) hx hb hts iX7_letterAt_X7 hown hK.1 hP 0 rfl rfl 0 (by decide) (hts (.fieldLink RX7 9 "LoneSeats$Text" "letters" "[I") (by decide +kernel)) (fun _ h9 => h9) rfl dX7_letterAt_13 ?_
      refine lv_iload_n hx hb dX7_letterAt_16 rfl (lv_at hl 1 rfl) ?_
      obtain ⟨hg1, hf⟩ := pf_x hf
      refine va_iald hx hb hK.1 hP 1 0 rfl rfl hg1 dX7_letterAt_17 ?_
      refine lv_goto (tgt := 23) hx hb dX7_letterAt_18 (by decide) ?_
      cases hf
      exact W.iret hx hb hr (fun t ht hW => ⟨rfl, ht⟩) (fun _ h => absurd h List.not_mem_nil) dX7_letterAt_23
abbrev WX4_takesHead (cI cJ cZ cB : ClassId) (a_o : Nat) (a_o_prices : Nat) (a_o_seats : Nat) (a_o_joined : Nat) (a_o_views : Nat) (v_o_rows : Int32) (v_o_awaited : Int32) : va_W := [(a_o, .inr (4, [.ref a_o_prices, .ref a_o_seats, .ref a_o_joined, .ref a_o_views, .int v_o_rows, .int v_o_awaited]))]
set_option maxRecDepth 20000 in
theorem iX4_takesHead_X4 : ∀ w ∈ wsX40, w ∈ wsX4_takesHead := by decide +kernel
def fX4_takesHead (v_o_awaited : Int32) : Option (Int32 × Int32) := (if v_o_awaited = 0 then some ((1 : Int32), (1 : Int32)) else some ((0 : Int32), v_o_awaited))
set_option maxRecDepth 100000 in
set_option maxHeartbeats 4000000 in
theorem kX4_takesHead (l : Launch) (D : va_G) (cI cJ cZ cB : ClassId) (a_o : Nat) (a_o_prices : Nat) (a_o_seats : Nat) (a_o_joined : Nat) (a_o_views : Nat) (v_o_rows : Int32) (v_o_awaited : Int32) (res : Int32 × Int32) (hf : fX4_takesHead v_o_awaited = some res) : Rw l yX4_takesHead wsX4_takesHead ({ frames := 0, cells := 0, slots := 0, locals := 0 } : Room) D (tyL cI cJ cZ cB) [.ref a_o] (WX4_takesHead cI cJ cZ cB a_o a_o_prices a_o_seats a_o_joined a_o_views v_o_rows v_o_awaited) (some (.int res.1)) (WX4_takesHead cI cJ cZ cB a_o a_o_prices a_o_seats a_o_joined a_o_views v_o_rows res.2) := by
  refine Rw.of (cc := cX4_takesHead) (maxL := 1) (ret := (some .boolean)) (own := RX4) (by decide) rfl rfl (Nat.le_of_ble_eq_true rfl) ?_
  intro p e s m below meth c A ls C hK hA hP hD hS hl
  obtain ⟨hx, hb, hr, hml, hts, hown, hlk⟩ := id C
  have hl : lv_has ls 1 [(0, .ref a_o)] := hl
  unfold fX4_takesHead at hf
  refine lv_aload_n hx hb dX4_takesHead_0 rfl (lv_at hl 0 rfl) ?_
  refine va_get (D := D) (ci := 4) (v := .int v_o_awaited) (C := RX4) (T := TX4) (N := 6) hx hb hts iX4_takesHead_X4 hown hK.1 hP 0 rfl rfl 5 (by decide) (hts (.fieldLink RX4 28 "LoneSeats$Plan" "awaited" "I") (by decide +kernel)) (fun _ h9 => h9) rfl dX4_takesHead_1 ?_
  refine lv_if_eq (tgt := 9) hx hb dX4_takesHead_4 (by decide) (fun hc => ?_) (fun hc => ?_)
  · have hf := pf_t hc hf
    refine lv_aload_n hx hb dX4_takesHead_9 rfl (lv_at hl 0 rfl) ?_
    refine lv_iconst (v := (1 : Int32)) hx hb dX4_takesHead_10 (by decide) ?_
    refine va_put (D := D) (ci := 4) (v := .int (1 : Int32)) (ty := .int) (C := RX4) (T := TX4) (N := 6) hx hb hts iX4_takesHead_X4 tyX4 tyX4_ok nmX4 hown hK.1 hP hD hS 0 rfl rfl 5 (by decide) (hts (.fieldLink RX4 28 "LoneSeats$Plan" "awaited" "I") (by decide +kernel)) (fun _ h9 => h9) rfl (by decide +kernel) rfl rfl (Nat.le_of_ble_eq_true rfl) dX4_takesHead_11 (fun H locs hP hD hS => ?_)
    have hP : va_P D vwCl (WX4_takesHead cI cJ cZ cB a_o a_o_prices a_o_seats a_o_joined a_o_views v_o_rows (1 : Int32)) H := hP
    have hD : va_D A (WX4_takesHead cI cJ cZ cB a_o a_o_prices a_o_seats a_o_joined a_o_views v_o_rows (1 : Int32)) := hD
    refine lv_iconst (v := (1 : Int32)) hx hb dX4_takesHead_14 (by decide) ?_
    cases hf
    exact W.zret hx hb hr (nar_b (by decide)) (fun t ht hW => ⟨⟨rfl, by rw [ht]; exact hP, hD⟩, hS.F ht⟩) hS.2.2 dX4_takesHead_15
  · have hf := pf_f hc hf
    refine lv_iconst (v := (0 : Int32)) hx hb dX4_takesHead_7 (by decide) ?_
    cases hf
    exact W.zret hx hb hr (nar_b (by decide)) (fun t ht hW => ⟨⟨rfl, by rw [ht]; exact hP, hD⟩, hS.F ht⟩) hS.2.2 dX4_takesHead_8
abbrev WX4_takesRow (cI cJ cZ cB : ClassId) (a_o : Nat) (a_o_prices : Nat) (a_o_seats : Nat) (a_o_joined : Nat) (a_o_views : Nat) (v_o_rows : Int32) (v_o_awaited : Int32) (d_o_seats : (Nat → Int32)) (d_o_joined : (Nat → Int32)) : va_W := [(a_o, .inr (4, [.ref a_o_prices, .ref a_o_seats, .ref a_o_joined, .ref a_o_views, .int v_o_rows, .int v_o_awaited])), (a_o_seats, .inl (cI, (4, .inl d_o_seats))), (a_o_joined, .inl (cI, (4, .inl d_o_joined)))]
set_option maxRecDepth 20000 in
theorem iX4_takesRow_X4 : ∀ w ∈ wsX40, w ∈ wsX4_takesRow := by decide +kernel
def fX4_takesRow_16 (v_o_rows : Int32) (v_o_awaited : Int32) (d_o_seats : (Nat → Int32)) (d_o_joined : (Nat → Int32)) : Option (Int32 × Int32 × Int32 × (Nat → Int32) × (Nat → Int32)) := (if v_o_rows < 0 then some ((0 : Int32), v_o_rows, v_o_awaited, d_o_seats, d_o_joined) else (if v_o_rows < (4 : Int32) then (if v_o_rows < 0 ∨ 4 ≤ (v_o_rows).toNatClampNeg then none else (if v_o_rows < 0 ∨ 4 ≤ (v_o_rows).toNatClampNeg then none else some ((1 : Int32), (v_o_rows + (1 : Int32)), (2 : Int32), (upd d_o_seats ((v_o_rows).toNatClampNeg) (0 : Int32)), (upd d_o_joined ((v_o_rows).toNatClampNeg) (0 : Int32))))) else some ((0 : Int32), v_o_rows, v_o_awaited, d_o_seats, d_o_joined)))
set_option maxRecDepth 100000 in
set_option maxHeartbeats 4000000 in
theorem tX4_takesRow_16 {p : Program} {l : Launch} {e : Env} {s : State} {m : MethodId} {args : Array Value} {below : List Frame} {meth : Method} {c : Code} {D : va_G} {cI cJ cZ cB : ClassId} {a_o : Nat} {a_o_prices : Nat} {a_o_seats : Nat} {a_o_joined : Nat} {a_o_views : Nat} {A : Nat → Prop} (C : Cx p s m args meth c cX4_takesRow 1 (some .boolean) wsX4_takesRow RX4) (hK : Kw D (tyL cI cJ cZ cB) s) (hA : ∀ q : Nat, s.heap.size ≤ q → A q) : ∀ (v_o_rows : Int32) (v_o_awaited : Int32) (d_o_seats : (Nat → Int32)) (d_o_joined : (Nat → Int32))  (H : Heap) (locs : List Loc) (ls : Array Slot) (res : Int32 × Int32 × Int32 × (Nat → Int32) × (Nat → Int32)), va_P D vwCl (WX4_takesRow cI cJ cZ cB a_o a_o_prices a_o_seats a_o_joined a_o_views v_o_rows v_o_awaited d_o_seats d_o_joined) H → va_D A (WX4_takesRow cI cJ cZ cB a_o a_o_prices a_o_seats a_o_joined a_o_views v_o_rows v_o_awaited d_o_seats d_o_joined) → va_S A s.heap H locs → lv_has ls 1 [(0, .ref a_o)] → fX4_takesRow_16 v_o_rows v_o_awaited d_o_seats d_o_joined = some res → W p l e ({ frames := 0, cells := 0, slots := 0, locals := 0 } : Room) s m args below meth c H locs 0 0 (MQ below (QRw D A (WX4_takesRow cI cJ cZ cB a_o a_o_prices a_o_seats a_o_joined a_o_views res.2.1 res.2.2.1 res.2.2.2.1 res.2.2.2.2) (some (.int res.1))) args s 0 0 A) (F0 m 16 ls []) := by
  obtain ⟨hx, hb, hr, hml, hts, hown, hlk⟩ := id C
  intro v_o_rows v_o_awaited d_o_seats d_o_joined H locs ls res hP hD hS hl hf
  unfold fX4_takesRow_16 at hf
  refine lv_aload_n hx hb dX4_takesRow_16 rfl (lv_at hl 0 rfl) ?_
  refine va_get (D := D) (ci := 4) (v := .int v_o_rows) (C := RX4) (T := TX4) (N := 6) hx hb hts iX4_takesRow_X4 hown hK.1 hP 0 rfl rfl 4 (by decide) (hts (.fieldLink RX4 24 "LoneSeats$Plan" "rows" "I") (by decide +kernel)) (fun _ h9 => h9) rfl dX4_takesRow_17 ?_
  refine lv_if_lt (tgt := 31) hx hb dX4_takesRow_20 (by decide) (fun hc => ?_) (fun hc => ?_)
  · have hf := pf_t hc hf
    refine lv_iconst (v := (0 : Int32)) hx hb dX4_takesRow_31 (by decide) ?_
    cases hf
    exact W.zret hx hb hr (nar_b (by decide)) (fun t ht hW => ⟨⟨rfl, by rw [ht]; exact hP, hD⟩, hS.F ht⟩) hS.2.2 dX4_takesRow_32
  · have hf := pf_f hc hf
    refine lv_aload_n hx hb dX4_takesRow_23 rfl (lv_at hl 0 rfl) ?_
    refine va_get (D := D) (ci := 4) (v := .int v_o_rows) (C := RX4) (T := TX4) (N := 6) hx hb hts iX4_takesRow_X4 hown hK.1 hP 0 rfl rfl 4 (by decide) (hts (.fieldLink RX4 24 "LoneSeats$Plan" "rows" "I") (by decide +kernel)) (fun _ h9 => h9) rfl dX4_takesRow_24 ?_
    refine lv_iconst (v := (4 : Int32)) hx hb dX4_takesRow_27 (by decide) ?_
    refine lv_icmp_lt (tgt := 33) hx hb dX4_takesRow_28 (by decide) (fun hc => ?_) (fun hc => ?_)
    · have hf := pf_t hc hf
      refine lv_aload_n hx hb dX4_takesRow_33 rfl (lv_at hl 0 rfl) ?_
      refine va_get (D := D) (ci := 4) (v := .ref a_o_seats) (C := RX4) (T := TX4) (N := 6) hx hb hts iX4_takesRow_X4 hown hK.1 hP 0 rfl rfl 1 (by decide) (hts (.fieldLink RX4 15 "LoneSeats$Plan" "seats" "[I") (by decide +kernel)) (fun _ h9 => h9) rfl dX4_takesRow_34 ?_
      refine lv_aload_n hx hb dX4_takesRow_37 rfl (lv_at hl 0 rfl) ?_
      refine va_get (D := D) (ci := 4) (v := .int v_o_rows) (C := RX4) (T := TX4) (N := 6) hx hb hts iX4_takesRow_X4 hown hK.1 hP 0 rfl rfl 4 (by decide) (hts (.fieldLink RX4 24 "LoneSeats$Plan" "rows" "I") (by decide +kernel)) (fun _ h9 => h9) rfl dX4_takesRow_38 ?_
      refine lv_iconst (v := (0 : Int32)) hx hb dX4_takesRow_41 (by decide) ?_
      obtain ⟨hg1, hf⟩ := pf_x hf
      refine va_iast hx hb hK.1 hP hD hS 1 0 rfl rfl hg1 dX4_takesRow_42 (fun H locs hP hD hS => ?_)
      have hP : va_P D vwCl (WX4_takesRow cI cJ cZ cB a_o a_o_prices a_o_seats a_o_joined a_o_views v_o_rows v_o_awaited (upd d_o_seats ((v_o_rows).toNatClampNeg) (0 : Int32)) d_o_joined) H := hP
      have hD : va_D A (WX4_takesRow cI cJ cZ cB a_o a_o_prices a_o_seats a_o_joined a_o_views v_o_rows v_o_awaited (upd d_o_seats ((v_o_rows).toNatClampNeg) (0 : Int32)) d_o_joined) := hD
      refine lv_aload_n hx hb dX4_takesRow_43 rfl (lv_at hl 0 rfl) ?_
      refine va_get (D := D) (ci := 4) (v := .ref a_o_joined) (C := RX4) (T := TX4) (N := 6) hx hb hts iX4_takesRow_X4 hown hK.1 hP 0 rfl rfl 2 (by decide) (hts (.fieldLink RX4 18 "LoneSeats$Plan" "joined" "[I") (by decide +kernel)) (fun _ h9 => h9) rfl dX4_takesRow_44 ?_
      refine lv_aload_n hx hb dX4_takesRow_47 rfl (lv_at hl 0 rfl) ?_
      refine va_get (D := D) (ci := 4) (v := .int v_o_rows) (C := RX4) (T := TX4) (N := 6) hx hb hts iX4_takesRow_X4 hown hK.1 hP 0 rfl rfl 4 (by decide) (hts (.fieldLink RX4 24 "LoneSeats$Plan" "rows" "I") (by decide +kernel)) (fun _ h9 => h9) rfl dX4_takesRow_48 ?_
      refine lv_iconst (v := (0 : Int32)) hx hb dX4_takesRow_51 (by decide) ?_
      obtain ⟨hg2, hf⟩ := pf_x hf
      refine va_iast hx hb hK.1 hP hD hS 2 0 rfl rfl hg2 dX4_takesRow_52 (fun H locs hP hD hS => ?_)
      have hP : va_P D vwCl (WX4_takesRow cI cJ cZ cB a_o a_o_prices a_o_seats a_o_joined a_o_views v_o_rows v_o_awaited (upd d_o_seats ((v_o_rows).toNatClampNeg) (0 : Int32)) (upd d_o_joined ((v_o_rows).toNatClampNeg) (0 : Int32))) H := hP
      have hD : va_D A (WX4_takesRow cI cJ cZ cB a_o a_o_prices a_o_seats a_o_joined a_o_views v_o_rows v_o_awaited (upd d_o_seats ((v_o_rows).toNatClampNeg) (0 : Int32)) (upd d_o_joined ((v_o_rows).toNatClampNeg) (0 : Int32))) := hD
      refine lv_aload_n hx hb dX4_takesRow_53 rfl (lv_at hl 0 rfl) ?_
      refine lv_dup hx hb dX4_takesRow_54 rfl ?_
      refine va_get (D := D) (ci := 4) (v := .int v_o_rows) (C := RX4) (T := TX4) (N := 6) hx hb hts iX4_takesRow_X4 hown hK.1 hP 0 rfl rfl 4 (by decide) (hts (.fieldLink RX4 24 "LoneSeats$Plan" "rows" "I") (by decide +kernel)) (fun _ h9 => h9) rfl dX4_takesRow_55 ?_
      refine lv_iconst (v := (1 : Int32)) hx hb dX4_takesRow_58 (by decide) ?_
      refine lv_iadd hx hb dX4_takesRow_59 ?_
      refine va_put (D := D) (ci := 4) (v := .int (v_o_rows + (1 : Int32))) (ty := .int) (C := RX4) (T := TX4) (N := 6) hx hb hts iX4_takesRow_X4 tyX4 tyX4_ok nmX4 hown hK.1 hP hD hS 0 rfl rfl 4 (by decide) (hts (.fieldLink RX4 24 "LoneSeats$Plan" "rows" "I") (by decide +kernel)) (fun _ h9 => h9) rfl (by decide +kernel) rfl rfl (Nat.le_of_ble_eq_true rfl) dX4_takesRow_60 (fun H locs hP hD hS => ?_)
      have hP : va_P D vwCl (WX4_takesRow cI cJ cZ cB a_o a_o_prices a_o_seats a_o_joined a_o_views (v_o_rows + (1 : Int32)) v_o_awaited (upd d_o_seats ((v_o_rows).toNatClampNeg) (0 : Int32)) (upd d_o_joined ((v_o_rows).toNatClampNeg) (0 : Int32))) H := hP
      have hD : va_D A (WX4_takesRow cI cJ cZ cB a_o a_o_prices a_o_seats a_o_joined a_o_views (v_o_rows + (1 : Int32)) v_o_awaited (upd d_o_seats ((v_o_rows).toNatClampNeg) (0 : Int32)) (upd d_o_joined ((v_o_rows).toNatClampNeg) (0 : Int32))) := hD
      refine lv_aload_n hx hb dX4_takesRow_63 rfl (lv_at hl 0 rfl) ?_
      refine lv_iconst (v := (2 : Int32)) hx hb dX4_takesRow_64 (by decide) ?_
      refine va_put (D := D) (ci := 4) (v := .int (2 : Int32)) (ty := .int) (C := RX4) (T := TX4) (N := 6) hx hb hts iX4_takesRow_X4 tyX4 tyX4_ok nmX4 hown hK.1 hP hD hS 0 rfl rfl 5 (by decide) (hts (.fieldLink RX4 28 "LoneSeats$Plan" "awaited" "I") (by decide +kernel)) (fun _ h9 => h9) rfl (by decide +kernel) rfl rfl (Nat.le_of_ble_eq_true rfl) dX4_takesRow_65 (fun H locs hP hD hS => ?_)
      have hP : va_P D vwCl (WX4_takesRow cI cJ cZ cB a_o a_o_prices a_o_seats a_o_joined a_o_views (v_o_rows + (1 : Int32)) (2 : Int32) (upd d_o_seats ((v_o_rows).toNatClampNeg) (0 : Int32)) (upd d_o_joined ((v_o_rows).toNatClampNeg) (0 : Int32))) H := hP
      have hD : va_D A (WX4_takesRow cI cJ cZ cB a_o a_o_prices a_o_seats a_o_joined a_o_views (v_o_rows + (1 : Int32)) (2 : Int32) (upd d_o_seats ((v_o_rows).toNatClampNeg) (0 : Int32)) (upd d_o_joined ((v_o_rows).toNatClampNeg) (0 : Int32))) := hD
      refine lv_iconst (v := (1 : Int32)) hx hb dX4_takesRow_68 (by decide) ?_
      cases hf
      exact W.zret hx hb hr (nar_b (by decide)) (fun t ht hW => ⟨⟨rfl, by rw [ht]; exact hP, hD⟩, hS.F ht⟩) hS.2.2 dX4_takesRow_69
    · have hf := pf_f hc hf
      refine lv_iconst (v := (0 : Int32)) hx hb dX4_takesRow_31 (by decide) ?_
      cases hf
      exact W.zret hx hb hr (nar_b (by decide)) (fun t ht hW => ⟨⟨rfl, by rw [ht]; exact hP, hD⟩, hS.F ht⟩) hS.2.2 dX4_takesRow_32
def fX4_takesRow (v_o_rows : Int32) (v_o_awaited : Int32) (d_o_seats : (Nat → Int32)) (d_o_joined : (Nat → Int32)) : Option (Int32 × Int32 × Int32 × (Nat → Int32) × (Nat → Int32)) := (if v_o_awaited = (1 : Int32) then fX4_takesRow_16 v_o_rows v_o_awaited d_o_seats d_o_joined else (if v_o_awaited = (4 : Int32) then fX4_takesRow_16 v_o_rows v_o_awaited d_o_seats d_o_joined else some ((0 : Int32), v_o_rows, v_o_awaited, d_o_seats, d_o_joined)))
set_option maxRecDepth 100000 in
set_option maxHeartbeats 4000000 in
theorem kX4_takesRow (l : Launch) (D : va_G) (cI cJ cZ cB : ClassId) (a_o : Nat) (a_o_prices : Nat) (a_o_seats : Nat) (a_o_joined : Nat) (a_o_views : Nat) (v_o_rows : Int32) (v_o_awaited : Int32) (d_o_seats : (Nat → Int32)) (d_o_joined : (Nat → Int32)) (res : Int32 × Int32 × Int32 × (Nat → Int32) × (Nat → Int32)) (hf : fX4_takesRow v_o_rows v_o_awaited d_o_seats d_o_joined = some res) : Rw l yX4_takesRow wsX4_takesRow ({ frames := 0, cells := 0, slots := 0, locals := 0 } : Room) D (tyL cI cJ cZ cB) [.ref a_o] (WX4_takesRow cI cJ cZ cB a_o a_o_prices a_o_seats a_o_joined a_o_views v_o_rows v_o_awaited d_o_seats d_o_joined) (some (.int res.1)) (WX4_takesRow cI cJ cZ cB a_o a_o_prices a_o_seats a_o_joined a_o_views res.2.1 res.2.2.1 res.2.2.2.1 res.2.2.2.2) := by
  refine Rw.of (cc := cX4_takesRow) (maxL := 1) (ret := (some .boolean)) (own := RX4) (by decide) rfl rfl (Nat.le_of_ble_eq_true rfl) ?_
  intro p e s m below meth c A ls C hK hA hP hD hS hl
  obtain ⟨hx, hb, hr, hml, hts, hown, hlk⟩ := id C
  have hl : lv_has ls 1 [(0, .ref a_o)] := hl
  unfold fX4_takesRow at hf
  refine lv_aload_n hx hb dX4_takesRow_0 rfl (lv_at hl 0 rfl) ?_
  refine va_get (D := D) (ci := 4) (v := .int v_o_awaited) (C := RX4) (T := TX4) (N := 6) hx hb hts iX4_takesRow_X4 hown hK.1 hP 0 rfl rfl 5 (by decide) (hts (.fieldLink RX4 28 "LoneSeats$Plan" "awaited" "I") (by decide +kernel)) (fun _ h9 => h9) rfl dX4_takesRow_1 ?_
  refine lv_iconst (v := (1 : Int32)) hx hb dX4_takesRow_4 (by decide) ?_
  refine lv_icmp_eq (tgt := 16) hx hb dX4_takesRow_5 (by decide) (fun hc => ?_) (fun hc => ?_)
  · have hf := pf_t hc hf
    exact tX4_takesRow_16 C hK hA  v_o_rows v_o_awaited d_o_seats d_o_joined _ _ ls _ hP hD hS (lv_sub hl [0] rfl) hf
  · have hf := pf_f hc hf
    refine lv_aload_n hx hb dX4_takesRow_8 rfl (lv_at hl 0 rfl) ?_
    refine va_get (D := D) (ci := 4) (v := .int v_o_awaited) (C := RX4) (T := TX4) (N := 6) hx hb hts iX4_takesRow_X4 hown hK.1 hP 0 rfl rfl 5 (by decide) (hts (.fieldLink RX4 28 "LoneSeats$Plan" "awaited" "I") (by decide +kernel)) (fun _ h9 => h9) rfl dX4_takesRow_9 ?_
    refine lv_iconst (v := (4 : Int32)) hx hb dX4_takesRow_12 (by decide) ?_
    refine lv_icmp_ne (tgt := 31) hx hb dX4_takesRow_13 (by decide) (fun hc => ?_) (fun hc => ?_)
    · have hf := pf_f hc hf
      refine lv_iconst (v := (0 : Int32)) hx hb dX4_takesRow_31 (by decide) ?_
      cases hf
      exact W.zret hx hb hr (nar_b (by decide)) (fun t ht hW => ⟨⟨rfl, by rw [ht]; exact hP, hD⟩, hS.F ht⟩) hS.2.2 dX4_takesRow_32
    · have hf := pf_t hc hf
      exact tX4_takesRow_16 C hK hA  v_o_rows v_o_awaited d_o_seats d_o_joined _ _ ls _ hP hD hS (lv_sub hl [0] rfl) hf
abbrev WX4_takesAisle (cI cJ cZ cB : ClassId) (a_o : Nat) (a_o_prices : Nat) (a_o_seats : Nat) (a_o_joined : Nat) (a_o_views : Nat) (v_o_rows : Int32) (v_o_awaited : Int32) (d_o_seats : (Nat → Int32)) : va_W := [(a_o, .inr (4, [.ref a_o_prices, .ref a_o_seats, .ref a_o_joined, .ref a_o_views, .int v_o_rows, .int v_o_awaited])), (a_o_seats, .inl (cI, (4, .inl d_o_seats)))]
set_option maxRecDepth 20000 in
theorem iX4_takesAisle_X4 : ∀ w ∈ wsX40, w ∈ wsX4_takesAisle := by decide +kernel
def fX4_takesAisle (v_o_rows : Int32) (v_o_awaited : Int32) (d_o_seats : (Nat → Int32)) : Option (Int32 × Int32) := (if v_o_awaited = (4 : Int32) then ((fX4_seatsIn v_o_rows d_o_seats (v_o_rows - (1 : Int32))).bind fun q1 => (if q1 < (9 : Int32) then some ((1 : Int32), (3 : Int32)) else some ((0 : Int32), v_o_awaited))) else some ((0 : Int32), v_o_awaited))
set_option maxRecDepth 100000 in
set_option maxHeartbeats 4000000 in
theorem kX4_takesAisle (l : Launch) (D : va_G) (cI cJ cZ cB : ClassId) (a_o : Nat) (a_o_prices : Nat) (a_o_seats : Nat) (a_o_joined : Nat) (a_o_views : Nat) (v_o_rows : Int32) (v_o_awaited : Int32) (d_o_seats : (Nat → Int32)) (res : Int32 × Int32) (hf : fX4_takesAisle v_o_rows v_o_awaited d_o_seats = some res) : Rw l yX4_takesAisle wsX4_takesAisle ({ frames := 2, cells := 0, slots := 0, locals := 42 } : Room) D (tyL cI cJ cZ cB) [.ref a_o] (WX4_takesAisle cI cJ cZ cB a_o a_o_prices a_o_seats a_o_joined a_o_views v_o_rows v_o_awaited d_o_seats) (some (.int res.1)) (WX4_takesAisle cI cJ cZ cB a_o a_o_prices a_o_seats a_o_joined a_o_views v_o_rows res.2 d_o_seats) := by
  refine Rw.of (cc := cX4_takesAisle) (maxL := 1) (ret := (some .boolean)) (own := RX4) (by decide) rfl rfl (Nat.le_of_ble_eq_true rfl) ?_
  intro p e s m below meth c A ls C hK hA hP hD hS hl
  obtain ⟨hx, hb, hr, hml, hts, hown, hlk⟩ := id C
  have hl : lv_has ls 1 [(0, .ref a_o)] := hl
  unfold fX4_takesAisle at hf
  refine lv_aload_n hx hb dX4_takesAisle_0 rfl (lv_at hl 0 rfl) ?_
  refine va_get (D := D) (ci := 4) (v := .int v_o_awaited) (C := RX4) (T := TX4) (N := 6) hx hb hts iX4_takesAisle_X4 hown hK.1 hP 0 rfl rfl 5 (by decide) (hts (.fieldLink RX4 28 "LoneSeats$Plan" "awaited" "I") (by decide +kernel)) (fun _ h9 => h9) rfl dX4_takesAisle_1 ?_
  refine lv_iconst (v := (4 : Int32)) hx hb dX4_takesAisle_4 (by decide) ?_
  refine lv_icmp_ne (tgt := 23) hx hb dX4_takesAisle_5 (by decide) (fun hc => ?_) (fun hc => ?_)
  · have hf := pf_f hc hf
    refine lv_iconst (v := (0 : Int32)) hx hb dX4_takesAisle_23 (by decide) ?_
    cases hf
    exact W.zret hx hb hr (nar_b (by decide)) (fun t ht hW => ⟨⟨rfl, by rw [ht]; exact hP, hD⟩, hS.F ht⟩) hS.2.2 dX4_takesAisle_24
  · have hf := pf_t hc hf
    refine lv_aload_n hx hb dX4_takesAisle_8 rfl (lv_at hl 0 rfl) ?_
    refine lv_aload_n hx hb dX4_takesAisle_9 rfl (lv_at hl 0 rfl) ?_
    refine va_get (D := D) (ci := 4) (v := .int v_o_rows) (C := RX4) (T := TX4) (N := 6) hx hb hts iX4_takesAisle_X4 hown hK.1 hP 0 rfl rfl 4 (by decide) (hts (.fieldLink RX4 24 "LoneSeats$Plan" "rows" "I") (by decide +kernel)) (fun _ h9 => h9) rfl dX4_takesAisle_10 ?_
    refine lv_iconst (v := (1 : Int32)) hx hb dX4_takesAisle_13 (by decide) ?_
    refine lv_isub hx hb dX4_takesAisle_14 ?_
    obtain ⟨q1, hq2, hf⟩ := pf_b hf
    have hPc := hP.sub (ws' := (WX4_seatsIn cI cJ cZ cB a_o a_o_prices a_o_seats a_o_joined a_o_views v_o_rows v_o_awaited d_o_seats)) [0, 1] rfl
    refine cl_roi (va_runV (As := [.int (v_o_rows - (1 : Int32))]) (rest := []) ⟨hx, hb, hml, hown, hts⟩ (kX4_seatsIn l D cI cJ cZ cB a_o a_o_prices a_o_seats a_o_joined a_o_views v_o_rows v_o_awaited d_o_seats (v_o_rows - (1 : Int32)) q1 hq2) (cwV 1 hts gX4_takesAisle_X4_seatsIn rfl rfl rfl (by decide +kernel) ⟨Nat.le_of_ble_eq_true rfl, Nat.le_of_ble_eq_true rfl⟩) ⟨PRo.blind, va_recv hK.1 hPc (ci := 4) (q0 := 0) rfl rfl, PRo.at hK hPc⟩ rfl rfl hl.1 rfl (lv_room (Nat.le_of_ble_eq_true rfl)) dX4_takesAisle_15 ⟨Nat.zero_le _, Nat.zero_le _⟩) ?_
    refine lv_bipush (v := (9 : Int32)) hx hb dX4_takesAisle_18 (by decide) ?_
    refine lv_icmp_lt (tgt := 25) hx hb dX4_takesAisle_20 (by decide) (fun hc => ?_) (fun hc => ?_)
    · have hf := pf_t hc hf
      refine lv_aload_n hx hb dX4_takesAisle_25 rfl (lv_at hl 0 rfl) ?_
      refine lv_iconst (v := (3 : Int32)) hx hb dX4_takesAisle_26 (by decide) ?_
      refine va_put (D := D) (ci := 4) (v := .int (3 : Int32)) (ty := .int) (C := RX4) (T := TX4) (N := 6) hx hb hts iX4_takesAisle_X4 tyX4 tyX4_ok nmX4 hown hK.1 hP hD hS 0 rfl rfl 5 (by decide) (hts (.fieldLink RX4 28 "LoneSeats$Plan" "awaited" "I") (by decide +kernel)) (fun _ h9 => h9) rfl (by decide +kernel) rfl rfl (Nat.le_of_ble_eq_true rfl) dX4_takesAisle_27 (fun H locs hP hD hS => ?_)
      have hP : va_P D vwCl (WX4_takesAisle cI cJ cZ cB a_o a_o_prices a_o_seats a_o_joined a_o_views v_o_rows (3 : Int32) d_o_seats) H := hP
      have hD : va_D A (WX4_takesAisle cI cJ cZ cB a_o a_o_prices a_o_seats a_o_joined a_o_views v_o_rows (3 : Int32) d_o_seats) := hD
      refine lv_iconst (v := (1 : Int32)) hx hb dX4_takesAisle_30 (by decide) ?_
      cases hf
      exact W.zret hx hb hr (nar_b (by decide)) (fun t ht hW => ⟨⟨rfl, by rw [ht]; exact hP, hD⟩, hS.F ht⟩) hS.2.2 dX4_takesAisle_31
    · have hf := pf_f hc hf
      refine lv_iconst (v := (0 : Int32)) hx hb dX4_takesAisle_23 (by decide) ?_
      cases hf
      exact W.zret hx hb hr (nar_b (by decide)) (fun t ht hW => ⟨⟨rfl, by rw [ht]; exact hP, hD⟩, hS.F ht⟩) hS.2.2 dX4_takesAisle_24
abbrev WX4_takesPrice (cI cJ cZ cB : ClassId) (a_o : Nat) (a_o_prices : Nat) (a_o_seats : Nat) (a_o_joined : Nat) (a_o_views : Nat) (v_o_rows : Int32) (v_o_awaited : Int32) (d_o_prices : (Nat → Int32)) : va_W := [(a_o, .inr (4, [.ref a_o_prices, .ref a_o_seats, .ref a_o_joined, .ref a_o_views, .int v_o_rows, .int v_o_awaited])), (a_o_prices, .inl (cI, (4, .inl d_o_prices)))]
set_option maxRecDepth 20000 in
theorem iX4_takesPrice_X4 : ∀ w ∈ wsX40, w ∈ wsX4_takesPrice := by decide +kernel
def fX4_takesPrice (v_o_awaited : Int32) (d_o_prices : (Nat → Int32)) (x1 : Int32) (x2 : Int32) : Option (Int32 × Int32 × (Nat → Int32)) := (if x2 = 0 then some ((0 : Int32), v_o_awaited, d_o_prices) else (if x1 < 0 ∨ 4 ≤ (x1).toNatClampNeg then none else some ((1 : Int32), (3 : Int32), (upd d_o_prices ((x1).toNatClampNeg) x2))))
set_option maxRecDepth 100000 in
set_option maxHeartbeats 4000000 in
theorem kX4_takesPrice (l : Launch) (D : va_G) (cI cJ cZ cB : ClassId) (a_o : Nat) (a_o_prices : Nat) (a_o_seats : Nat) (a_o_joined : Nat) (a_o_views : Nat) (v_o_rows : Int32) (v_o_awaited : Int32) (d_o_prices : (Nat → Int32)) (x1 : Int32) (x2 : Int32) (res : Int32 × Int32 × (Nat → Int32)) (hf : fX4_takesPrice v_o_awaited d_o_prices x1 x2 = some res) : Rw l yX4_takesPrice wsX4_takesPrice ({ frames := 0, cells := 0, slots := 0, locals := 0 } : Room) D (tyL cI cJ cZ cB) [.ref a_o, .int x1, .int x2] (WX4_takesPrice cI cJ cZ cB a_o a_o_prices a_o_seats a_o_joined a_o_views v_o_rows v_o_awaited d_o_prices) (some (.int res.1)) (WX4_takesPrice cI cJ cZ cB a_o a_o_prices a_o_seats a_o_joined a_o_views v_o_rows res.2.1 res.2.2) := by
  refine Rw.of (cc := cX4_takesPrice) (maxL := 3) (ret := (some .boolean)) (own := RX4) (by decide) rfl rfl (Nat.le_of_ble_eq_true rfl) ?_
  intro p e s m below meth c A ls C hK hA hP hD hS hl
  obtain ⟨hx, hb, hr, hml, hts, hown, hlk⟩ := id C
  have hl : lv_has ls 3 [(0, .ref a_o), (1, .int x1), (2, .int x2)] := hl
  unfold fX4_takesPrice at hf
  refine lv_iload_n hx hb dX4_takesPrice_0 rfl (lv_at hl 2 rfl) ?_
  refine lv_if_ne (tgt := 6) hx hb dX4_takesPrice_1 (by decide) (fun hc => ?_) (fun hc => ?_)
  · have hf := pf_f hc hf
    refine lv_aload_n hx hb dX4_takesPrice_6 rfl (lv_at hl 0 rfl) ?_
    refine va_get (D := D) (ci := 4) (v := .ref a_o_prices) (C := RX4) (T := TX4) (N := 6) hx hb hts iX4_takesPrice_X4 hown hK.1 hP 0 rfl rfl 0 (by decide) (hts (.fieldLink RX4 9 "LoneSeats$Plan" "prices" "[I") (by decide +kernel)) (fun _ h9 => h9) rfl dX4_takesPrice_7 ?_
    refine lv_iload_n hx hb dX4_takesPrice_10 rfl (lv_at hl 1 rfl) ?_
    refine lv_iload_n hx hb dX4_takesPrice_11 rfl (lv_at hl 2 rfl) ?_
    obtain ⟨hg1, hf⟩ := pf_x hf
    refine va_iast hx hb hK.1 hP hD hS 1 0 rfl rfl hg1 dX4_takesPrice_12 (fun H locs hP hD hS => ?_)
    have hP : va_P D vwCl (WX4_takesPrice cI cJ cZ cB a_o a_o_prices a_o_seats a_o_joined a_o_views v_o_rows v_o_awaited (upd d_o_prices ((x1).toNatClampNeg) x2)) H := hP
    have hD : va_D A (WX4_takesPrice cI cJ cZ cB a_o a_o_prices a_o_seats a_o_joined a_o_views v_o_rows v_o_awaited (upd d_o_prices ((x1).toNatClampNeg) x2)) := hD
    refine lv_aload_n hx hb dX4_takesPrice_13 rfl (lv_at hl 0 rfl) ?_
    refine lv_iconst (v := (3 : Int32)) hx hb dX4_takesPrice_14 (by decide) ?_
    refine va_put (D := D) (ci := 4) (v := .int (3 : Int32)) (ty := .int) (C := RX4) (T := TX4) (N := 6) hx hb hts iX4_takesPrice_X4 tyX4 tyX4_ok nmX4 hown hK.1 hP hD hS 0 rfl rfl 5 (by decide) (hts (.fieldLink RX4 28 "LoneSeats$Plan" "awaited" "I") (by decide +kernel)) (fun _ h9 => h9) rfl (by decide +kernel) rfl rfl (Nat.le_of_ble_eq_true rfl) dX4_takesPrice_15 (fun H locs hP hD hS => ?_)
    have hP : va_P D vwCl (WX4_takesPrice cI cJ cZ cB a_o a_o_prices a_o_seats a_o_joined a_o_views v_o_rows (3 : Int32) (upd d_o_prices ((x1).toNatClampNeg) x2)) H := hP
    have hD : va_D A (WX4_takesPrice cI cJ cZ cB a_o a_o_prices a_o_seats a_o_joined a_o_views v_o_rows (3 : Int32) (upd d_o_prices ((x1).toNatClampNeg) x2)) := hD
    refine lv_iconst (v := (1 : Int32)) hx hb dX4_takesPrice_18 (by decide) ?_
    cases hf
    exact W.zret hx hb hr (nar_b (by decide)) (fun t ht hW => ⟨⟨rfl, by rw [ht]; exact hP, hD⟩, hS.F ht⟩) hS.2.2 dX4_takesPrice_19
  · have hf := pf_t hc hf
    refine lv_iconst (v := (0 : Int32)) hx hb dX4_takesPrice_4 (by decide) ?_
    cases hf
    exact W.zret hx hb hr (nar_b (by decide)) (fun t ht hW => ⟨⟨rfl, by rw [ht]; exact hP, hD⟩, hS.F ht⟩) hS.2.2 dX4_takesPrice_5
abbrev WX4_takesView (cI cJ cZ cB : ClassId) (a_o : Nat) (a_o_prices : Nat) (a_o_seats : Nat) (a_o_joined : Nat) (a_o_views : Nat) (v_o_rows : Int32) (v_o_awaited : Int32) (d_o_seats : (Nat → Int32)) (d_o_joined : (Nat → Int32)) (d_o_views : (Nat → Int32)) : va_W := [(a_o, .inr (4, [.ref a_o_prices, .ref a_o_seats, .ref a_o_joined, .ref a_o_views, .int v_o_rows, .int v_o_awaited])), (a_o_seats, .inl (cI, (4, .inl d_o_seats))), (a_o_joined, .inl (cI, (4, .inl d_o_joined))), (a_o_views, .inl (cI, (36, .inl d_o_views)))]
set_option maxRecDepth 20000 in
theorem iX4_takesView_X4 : ∀ w ∈ wsX40, w ∈ wsX4_takesView := by decide +kernel
def fX4_takesView_41 (v_o_awaited : Int32) (d_o_seats : (Nat → Int32)) (d_o_joined : (Nat → Int32)) (d_o_views : (Nat → Int32)) (x1 : Int32) (x2 : Int32) (x3 : Int32) : Option (Int32 × Int32 × (Nat → Int32) × (Nat → Int32) × (Nat → Int32)) := (if ((x1 * (9 : Int32)) + x3) < 0 ∨ 36 ≤ (((x1 * (9 : Int32)) + x3)).toNatClampNeg then none else (if x1 < 0 ∨ 4 ≤ (x1).toNatClampNeg then none else some ((1 : Int32), (4 : Int32), (upd d_o_seats ((x1).toNatClampNeg) (x3 + (1 : Int32))), d_o_joined, (upd d_o_views ((((x1 * (9 : Int32)) + x3)).toNatClampNeg) x2))))
set_option maxRecDepth 100000 in
set_option maxHeartbeats 4000000 in
theorem tX4_takesView_41 {p : Program} {l : Launch} {e : Env} {s : State} {m : MethodId} {args : Array Value} {below : List Frame} {meth : Method} {c : Code} {D : va_G} {cI cJ cZ cB : ClassId} {a_o : Nat} {a_o_prices : Nat} {a_o_seats : Nat} {a_o_joined : Nat} {a_o_views : Nat} {A : Nat → Prop} (C : Cx p s m args meth c cX4_takesView 4 (some .boolean) wsX4_takesView RX4) (hK : Kw D (tyL cI cJ cZ cB) s) (hA : ∀ q : Nat, s.heap.size ≤ q → A q) : ∀ (v_o_rows : Int32) (v_o_awaited : Int32) (d_o_seats : (Nat → Int32)) (d_o_joined : (Nat → Int32)) (d_o_views : (Nat → Int32)) (x1 : Int32) (x2 : Int32) (x3 : Int32) (H : Heap) (locs : List Loc) (ls : Array Slot) (res : Int32 × Int32 × (Nat → Int32) × (Nat → Int32) × (Nat → Int32)), va_P D vwCl (WX4_takesView cI cJ cZ cB a_o a_o_prices a_o_seats a_o_joined a_o_views v_o_rows v_o_awaited d_o_seats d_o_joined d_o_views) H → va_D A (WX4_takesView cI cJ cZ cB a_o a_o_prices a_o_seats a_o_joined a_o_views v_o_rows v_o_awaited d_o_seats d_o_joined d_o_views) → va_S A s.heap H locs → lv_has ls 4 [(0, .ref a_o), (1, .int x1), (2, .int x2), (3, .int x3)] → fX4_takesView_41 v_o_awaited d_o_seats d_o_joined d_o_views x1 x2 x3 = some res → W p l e ({ frames := 0, cells := 0, slots := 0, locals := 0 } : Room) s m args below meth c H locs 0 0 (MQ below (QRw D A (WX4_takesView cI cJ cZ cB a_o a_o_prices a_o_seats a_o_joined a_o_views v_o_rows res.2.1 res.2.2.1 res.2.2.2.1 res.2.2.2.2) (some (.int res.1))) args s 0 0 A) (F0 m 41 ls []) := by
  obtain ⟨hx, hb, hr, hml, hts, hown, hlk⟩ := id C
  intro v_o_rows v_o_awaited d_o_seats d_o_joined d_o_views x1 x2 x3 H locs ls res hP hD hS hl hf
  unfold fX4_takesView_41 at hf
  refine lv_aload_n hx hb dX4_takesView_41 rfl (lv_at hl 0 rfl) ?_
  refine va_get (D := D) (ci := 4) (v := .ref a_o_views) (C := RX4) (T := TX4) (N := 6) hx hb hts iX4_takesView_X4 hown hK.1 hP 0 rfl rfl 3 (by decide) (hts (.fieldLink RX4 21 "LoneSeats$Plan" "views" "[I") (by decide +kernel)) (fun _ h9 => h9) rfl dX4_takesView_42 ?_
  refine lv_iload_n hx hb dX4_takesView_45 rfl (lv_at hl 1 rfl) ?_
  refine lv_bipush (v := (9 : Int32)) hx hb dX4_takesView_46 (by decide) ?_
  refine lv_imul hx hb dX4_takesView_48 ?_
  refine lv_iload_n hx hb dX4_takesView_49 rfl (lv_at hl 3 rfl) ?_
  refine lv_iadd hx hb dX4_takesView_50 ?_
  refine lv_iload_n hx hb dX4_takesView_51 rfl (lv_at hl 2 rfl) ?_
  obtain ⟨hg1, hf⟩ := pf_x hf
  refine va_iast hx hb hK.1 hP hD hS 3 0 rfl rfl hg1 dX4_takesView_52 (fun H locs hP hD hS => ?_)
  have hP : va_P D vwCl (WX4_takesView cI cJ cZ cB a_o a_o_prices a_o_seats a_o_joined a_o_views v_o_rows v_o_awaited d_o_seats d_o_joined (upd d_o_views ((((x1 * (9 : Int32)) + x3)).toNatClampNeg) x2)) H := hP
  have hD : va_D A (WX4_takesView cI cJ cZ cB a_o a_o_prices a_o_seats a_o_joined a_o_views v_o_rows v_o_awaited d_o_seats d_o_joined (upd d_o_views ((((x1 * (9 : Int32)) + x3)).toNatClampNeg) x2)) := hD
  refine lv_aload_n hx hb dX4_takesView_53 rfl (lv_at hl 0 rfl) ?_
  refine va_get (D := D) (ci := 4) (v := .ref a_o_seats) (C := RX4) (T := TX4) (N := 6) hx hb hts iX4_takesView_X4 hown hK.1 hP 0 rfl rfl 1 (by decide) (hts (.fieldLink RX4 15 "LoneSeats$Plan" "seats" "[I") (by decide +kernel)) (fun _ h9 => h9) rfl dX4_takesView_54 ?_
  refine lv_iload_n hx hb dX4_takesView_57 rfl (lv_at hl 1 rfl) ?_
  refine lv_iload_n hx hb dX4_takesView_58 rfl (lv_at hl 3 rfl) ?_
  refine lv_iconst (v := (1 : Int32)) hx hb dX4_takesView_59 (by decide) ?_
  refine lv_iadd hx hb dX4_takesView_60 ?_
  obtain ⟨hg2, hf⟩ := pf_x hf
  refine va_iast hx hb hK.1 hP hD hS 1 0 rfl rfl hg2 dX4_takesView_61 (fun H locs hP hD hS => ?_)
  have hP : va_P D vwCl (WX4_takesView cI cJ cZ cB a_o a_o_prices a_o_seats a_o_joined a_o_views v_o_rows v_o_awaited (upd d_o_seats ((x1).toNatClampNeg) (x3 + (1 : Int32))) d_o_joined (upd d_o_views ((((x1 * (9 : Int32)) + x3)).toNatClampNeg) x2)) H := hP
  have hD : va_D A (WX4_takesView cI cJ cZ cB a_o a_o_prices a_o_seats a_o_joined a_o_views v_o_rows v_o_awaited (upd d_o_seats ((x1).toNatClampNeg) (x3 + (1 : Int32))) d_o_joined (upd d_o_views ((((x1 * (9 : Int32)) + x3)).toNatClampNeg) x2)) := hD
  refine lv_aload_n hx hb dX4_takesView_62 rfl (lv_at hl 0 rfl) ?_
  refine lv_iconst (v := (4 : Int32)) hx hb dX4_takesView_63 (by decide) ?_
  refine va_put (D := D) (ci := 4) (v := .int (4 : Int32)) (ty := .int) (C := RX4) (T := TX4) (N := 6) hx hb hts iX4_takesView_X4 tyX4 tyX4_ok nmX4 hown hK.1 hP hD hS 0 rfl rfl 5 (by decide) (hts (.fieldLink RX4 28 "LoneSeats$Plan" "awaited" "I") (by decide +kernel)) (fun _ h9 => h9) rfl (by decide +kernel) rfl rfl (Nat.le_of_ble_eq_true rfl) dX4_takesView_64 (fun H locs hP hD hS => ?_)
  have hP : va_P D vwCl (WX4_takesView cI cJ cZ cB a_o a_o_prices a_o_seats a_o_joined a_o_views v_o_rows (4 : Int32) (upd d_o_seats ((x1).toNatClampNeg) (x3 + (1 : Int32))) d_o_joined (upd d_o_views ((((x1 * (9 : Int32)) + x3)).toNatClampNeg) x2)) H := hP
  have hD : va_D A (WX4_takesView cI cJ cZ cB a_o a_o_prices a_o_seats a_o_joined a_o_views v_o_rows (4 : Int32) (upd d_o_seats ((x1).toNatClampNeg) (x3 + (1 : Int32))) d_o_joined (upd d_o_views ((((x1 * (9 : Int32)) + x3)).toNatClampNeg) x2)) := hD
  refine lv_iconst (v := (1 : Int32)) hx hb dX4_takesView_67 (by decide) ?_
  cases hf
  exact W.zret hx hb hr (nar_b (by decide)) (fun t ht hW => ⟨⟨rfl, by rw [ht]; exact hP, hD⟩, hS.F ht⟩) hS.2.2 dX4_takesView_68
def fX4_takesView (v_o_awaited : Int32) (d_o_seats : (Nat → Int32)) (d_o_joined : (Nat → Int32)) (d_o_views : (Nat → Int32)) (x1 : Int32) (x2 : Int32) : Option (Int32 × Int32 × (Nat → Int32) × (Nat → Int32) × (Nat → Int32)) := (if x1 < 0 ∨ 4 ≤ (x1).toNatClampNeg then none else (if (d_o_seats (x1).toNatClampNeg) < 0 then some ((0 : Int32), v_o_awaited, d_o_seats, d_o_joined, d_o_views) else (if (d_o_seats (x1).toNatClampNeg) < (9 : Int32) then (if v_o_awaited = (4 : Int32) then (if x1 < 0 ∨ 4 ≤ (x1).toNatClampNeg then none else (if x1 < 0 ∨ 4 ≤ (x1).toNatClampNeg then none else fX4_takesView_41 v_o_awaited d_o_seats (upd d_o_joined ((x1).toNatClampNeg) ((d_o_joined (x1).toNatClampNeg) ||| ((1 : Int32) <<< (((d_o_seats (x1).toNatClampNeg) - (1 : Int32)) &&& 31)))) d_o_views x1 x2 (d_o_seats (x1).toNatClampNeg))) else fX4_takesView_41 v_o_awaited d_o_seats d_o_joined d_o_views x1 x2 (d_o_seats (x1).toNatClampNeg)) else some ((0 : Int32), v_o_awaited, d_o_seats, d_o_joined, d_o_views))))
set_option maxRecDepth 100000 in
set_option maxHeartbeats 4000000 in
theorem kX4_takesView (l : Launch) (D : va_G) (cI cJ cZ cB : ClassId) (a_o : Nat) (a_o_prices : Nat) (a_o_seats : Nat) (a_o_joined : Nat) (a_o_views : Nat) (v_o_rows : Int32) (v_o_awaited : Int32) (d_o_seats : (Nat → Int32)) (d_o_joined : (Nat → Int32)) (d_o_views : (Nat → Int32)) (x1 : Int32) (x2 : Int32) (res : Int32 × Int32 × (Nat → Int32) × (Nat → Int32) × (Nat → Int32)) (hf : fX4_takesView v_o_awaited d_o_seats d_o_joined d_o_views x1 x2 = some res) : Rw l yX4_takesView wsX4_takesView ({ frames := 0, cells := 0, slots := 0, locals := 0 } : Room) D (tyL cI cJ cZ cB) [.ref a_o, .int x1, .int x2] (WX4_takesView cI cJ cZ cB a_o a_o_prices a_o_seats a_o_joined a_o_views v_o_rows v_o_awaited d_o_seats d_o_joined d_o_views) (some (.int res.1)) (WX4_takesView cI cJ cZ cB a_o a_o_prices a_o_seats a_o_joined a_o_views v_o_rows res.2.1 res.2.2.1 res.2.2.2.1 res.2.2.2.2) := by
  refine Rw.of (cc := cX4_takesView) (maxL := 4) (ret := (some .boolean)) (own := RX4) (by decide) rfl rfl (Nat.le_of_ble_eq_true rfl) ?_
  intro p e s m below meth c A ls C hK hA hP hD hS hl
  obtain ⟨hx, hb, hr, hml, hts, hown, hlk⟩ := id C
  have hl : lv_has ls 4 [(0, .ref a_o), (1, .int x1), (2, .int x2)] := hl
  unfold fX4_takesView at hf
  refine lv_aload_n hx hb dX4_takesView_0 rfl (lv_at hl 0 rfl) ?_
  refine va_get (D := D) (ci := 4) (v := .ref a_o_seats) (C := RX4) (T := TX4) (N := 6) hx hb hts iX4_takesView_X4 hown hK.1 hP 0 rfl rfl 1 (by decide) (hts (.fieldLink RX4 15 "LoneSeats$Plan" "seats" "[I") (by decide +kernel)) (fun _ h9 => h9) rfl dX4_takesView_1 ?_
  refine lv_iload_n hx hb dX4_takesView_4 rfl (lv_at hl 1 rfl) ?_
  obtain ⟨hg1, hf⟩ := pf_x hf
  refine va_iald hx hb hK.1 hP 1 0 rfl rfl hg1 dX4_takesView_5 ?_
  refine lv_istore_n (lv' := [(3, .int (d_o_seats (x1).toNatClampNeg)), (0, .ref a_o), (1, .int x1), (2, .int x2)]) hx hb dX4_takesView_6 rfl hl (by decide) rfl (fun ls hl => ?_)
  refine lv_iload_n hx hb dX4_takesView_7 rfl (lv_at hl 0 rfl) ?_
  refine lv_if_lt (tgt := 17) hx hb dX4_takesView_8 (by decide) (fun hc => ?_) (fun hc => ?_)
  · have hf := pf_t hc hf
    refine lv_iconst (v := (0 : Int32)) hx hb dX4_takesView_17 (by decide) ?_
    cases hf
    exact W.zret hx hb hr (nar_b (by decide)) (fun t ht hW => ⟨⟨rfl, by rw [ht]; exact hP, hD⟩, hS.F ht⟩) hS.2.2 dX4_takesView_18
  · have hf := pf_f hc hf
    refine lv_iload_n hx hb dX4_takesView_11 rfl (lv_at hl 0 rfl) ?_
    refine lv_bipush (v := (9 : Int32)) hx hb dX4_takesView_12 (by decide) ?_
    refine lv_icmp_lt (tgt := 19) hx hb dX4_takesView_14 (by decide) (fun hc => ?_) (fun hc => ?_)
    · have hf := pf_t hc hf
      refine lv_aload_n hx hb dX4_takesView_19 rfl (lv_at hl 1 rfl) ?_
      refine va_get (D := D) (ci := 4) (v := .int v_o_awaited) (C := RX4) (T := TX4) (N := 6) hx hb hts iX4_takesView_X4 hown hK.1 hP 0 rfl rfl 5 (by decide) (hts (.fieldLink RX4 28 "LoneSeats$Plan" "awaited" "I") (by decide +kernel)) (fun _ h9 => h9) rfl dX4_takesView_20 ?_
      refine lv_iconst (v := (4 : Int32)) hx hb dX4_takesView_23 (by decide) ?_
      refine lv_icmp_ne (tgt := 41) hx hb dX4_takesView_24 (by decide) (fun hc => ?_) (fun hc => ?_)
      · have hf := pf_f hc hf
        exact tX4_takesView_41 C hK hA  v_o_rows v_o_awaited d_o_seats d_o_joined d_o_views x1 x2 (d_o_seats (x1).toNatClampNeg) _ _ ls _ hP hD hS (lv_sub hl [1, 2, 3, 0] rfl) hf
      · have hf := pf_t hc hf
        refine lv_aload_n hx hb dX4_takesView_27 rfl (lv_at hl 1 rfl) ?_
        refine va_get (D := D) (ci := 4) (v := .ref a_o_joined) (C := RX4) (T := TX4) (N := 6) hx hb hts iX4_takesView_X4 hown hK.1 hP 0 rfl rfl 2 (by decide) (hts (.fieldLink RX4 18 "LoneSeats$Plan" "joined" "[I") (by decide +kernel)) (fun _ h9 => h9) rfl dX4_takesView_28 ?_
        refine lv_iload_n hx hb dX4_takesView_31 rfl (lv_at hl 2 rfl) ?_
        refine lv_dup2_11 hx hb dX4_takesView_32 rfl rfl ?_
        obtain ⟨hg2, hf⟩ := pf_x hf
        refine va_iald hx hb hK.1 hP 2 0 rfl rfl hg2 dX4_takesView_33 ?_
        refine lv_iconst (v := (1 : Int32)) hx hb dX4_takesView_34 (by decide) ?_
        refine lv_iload_n hx hb dX4_takesView_35 rfl (lv_at hl 0 rfl) ?_
        refine lv_iconst (v := (1 : Int32)) hx hb dX4_takesView_36 (by decide) ?_
        refine lv_isub hx hb dX4_takesView_37 ?_
        refine lv_ishl hx hb dX4_takesView_38 ?_
        refine lv_ior hx hb dX4_takesView_39 ?_
        obtain ⟨hg3, hf⟩ := pf_x hf
        refine va_iast hx hb hK.1 hP hD hS 2 0 rfl rfl hg3 dX4_takesView_40 (fun H locs hP hD hS => ?_)
        have hP : va_P D vwCl (WX4_takesView cI cJ cZ cB a_o a_o_prices a_o_seats a_o_joined a_o_views v_o_rows v_o_awaited d_o_seats (upd d_o_joined ((x1).toNatClampNeg) ((d_o_joined (x1).toNatClampNeg) ||| ((1 : Int32) <<< (((d_o_seats (x1).toNatClampNeg) - (1 : Int32)) &&& 31)))) d_o_views) H := hP
        have hD : va_D A (WX4_takesView cI cJ cZ cB a_o a_o_prices a_o_seats a_o_joined a_o_views v_o_rows v_o_awaited d_o_seats (upd d_o_joined ((x1).toNatClampNeg) ((d_o_joined (x1).toNatClampNeg) ||| ((1 : Int32) <<< (((d_o_seats (x1).toNatClampNeg) - (1 : Int32)) &&& 31)))) d_o_views) := hD
        exact tX4_takesView_41 C hK hA  v_o_rows v_o_awaited d_o_seats (upd d_o_joined ((x1).toNatClampNeg) ((d_o_joined (x1).toNatClampNeg) ||| ((1 : Int32) <<< (((d_o_seats (x1).toNatClampNeg) - (1 : Int32)) &&& 31)))) d_o_views x1 x2 (d_o_seats (x1).toNatClampNeg) _ _ ls _ hP hD hS (lv_sub hl [1, 2, 3, 0] rfl) hf
    · have hf := pf_f hc hf
      refine lv_iconst (v := (0 : Int32)) hx hb dX4_takesView_17 (by decide) ?_
      cases hf
      exact W.zret hx hb hr (nar_b (by decide)) (fun t ht hW => ⟨⟨rfl, by rw [ht]; exact hP, hD⟩, hS.F ht⟩) hS.2.2 dX4_takesView_18
abbrev WX4_takesDigit (cI cJ cZ cB : ClassId) (a_o : Nat) (a_o_prices : Nat) (a_o_seats : Nat) (a_o_joined : Nat) (a_o_views : Nat) (v_o_rows : Int32) (v_o_awaited : Int32) (d_o_prices : (Nat → Int32)) (d_o_seats : (Nat → Int32)) (d_o_joined : (Nat → Int32)) (d_o_views : (Nat → Int32)) : va_W := [(a_o, .inr (4, [.ref a_o_prices, .ref a_o_seats, .ref a_o_joined, .ref a_o_views, .int v_o_rows, .int v_o_awaited])), (a_o_prices, .inl (cI, (4, .inl d_o_prices))), (a_o_seats, .inl (cI, (4, .inl d_o_seats))), (a_o_joined, .inl (cI, (4, .inl d_o_joined))), (a_o_views, .inl (cI, (36, .inl d_o_views)))]
set_option maxRecDepth 20000 in
theorem iX4_takesDigit_X4 : ∀ w ∈ wsX40, w ∈ wsX4_takesDigit := by decide +kernel
def fX4_takesDigit_51 (v_o_rows : Int32) (v_o_awaited : Int32) (d_o_prices : (Nat → Int32)) (d_o_seats : (Nat → Int32)) (d_o_joined : (Nat → Int32)) (d_o_views : (Nat → Int32)) (x1 : Int32) : Option (Int32 × Int32 × (Nat → Int32) × (Nat → Int32) × (Nat → Int32) × (Nat → Int32)) := ((fX4_takesView v_o_awaited d_o_seats d_o_joined d_o_views (v_o_rows - (1 : Int32)) x1).bind fun q1 => (if q1.1 = 0 then some ((0 : Int32), q1.2.1, d_o_prices, q1.2.2.1, q1.2.2.2.1, q1.2.2.2.2) else some ((1 : Int32), q1.2.1, d_o_prices, q1.2.2.1, q1.2.2.2.1, q1.2.2.2.2)))
set_option maxRecDepth 100000 in
set_option maxHeartbeats 4000000 in
theorem tX4_takesDigit_51 {p : Program} {l : Launch} {e : Env} {s : State} {m : MethodId} {args : Array Value} {below : List Frame} {meth : Method} {c : Code} {D : va_G} {cI cJ cZ cB : ClassId} {a_o : Nat} {a_o_prices : Nat} {a_o_seats : Nat} {a_o_joined : Nat} {a_o_views : Nat} {A : Nat → Prop} (C : Cx p s m args meth c cX4_takesDigit 2 (some .boolean) wsX4_takesDigit RX4) (hK : Kw D (tyL cI cJ cZ cB) s) (hA : ∀ q : Nat, s.heap.size ≤ q → A q) : ∀ (v_o_rows : Int32) (v_o_awaited : Int32) (d_o_prices : (Nat → Int32)) (d_o_seats : (Nat → Int32)) (d_o_joined : (Nat → Int32)) (d_o_views : (Nat → Int32)) (x1 : Int32) (H : Heap) (locs : List Loc) (ls : Array Slot) (res : Int32 × Int32 × (Nat → Int32) × (Nat → Int32) × (Nat → Int32) × (Nat → Int32)), va_P D vwCl (WX4_takesDigit cI cJ cZ cB a_o a_o_prices a_o_seats a_o_joined a_o_views v_o_rows v_o_awaited d_o_prices d_o_seats d_o_joined d_o_views) H → va_D A (WX4_takesDigit cI cJ cZ cB a_o a_o_prices a_o_seats a_o_joined a_o_views v_o_rows v_o_awaited d_o_prices d_o_seats d_o_joined d_o_views) → va_S A s.heap H locs → lv_has ls 2 [(0, .ref a_o), (1, .int x1)] → fX4_takesDigit_51 v_o_rows v_o_awaited d_o_prices d_o_seats d_o_joined d_o_views x1 = some res → W p l e ({ frames := 1, cells := 0, slots := 0, locals := 23 } : Room) s m args below meth c H locs 0 0 (MQ below (QRw D A (WX4_takesDigit cI cJ cZ cB a_o a_o_prices a_o_seats a_o_joined a_o_views v_o_rows res.2.1 res.2.2.1 res.2.2.2.1 res.2.2.2.2.1 res.2.2.2.2.2) (some (.int res.1))) args s 0 0 A) (F0 m 51 ls []) := by
  obtain ⟨hx, hb, hr, hml, hts, hown, hlk⟩ := id C
  intro v_o_rows v_o_awaited d_o_prices d_o_seats d_o_joined d_o_views x1 H locs ls res hP hD hS hl hf
  unfold fX4_takesDigit_51 at hf
  refine lv_aload_n hx hb dX4_takesDigit_51 rfl (lv_at hl 0 rfl) ?_
  refine lv_aload_n hx hb dX4_takesDigit_52 rfl (lv_at hl 0 rfl) ?_
  refine va_get (D := D) (ci := 4) (v := .int v_o_rows) (C := RX4) (T := TX4) (N := 6) hx hb hts iX4_takesDigit_X4 hown hK.1 hP 0 rfl rfl 4 (by decide) (hts (.fieldLink RX4 24 "LoneSeats$Plan" "rows" "I") (by decide +kernel)) (fun _ h9 => h9) rfl dX4_takesDigit_53 ?_
  refine lv_iconst (v := (1 : Int32)) hx hb dX4_takesDigit_56 (by decide) ?_
  refine lv_isub hx hb dX4_takesDigit_57 ?_
  refine lv_iload_n hx hb dX4_takesDigit_58 rfl (lv_at hl 1 rfl) ?_
  obtain ⟨q1, hq2, hf⟩ := pf_b hf
  have hPc := hP.sub (ws' := (WX4_takesView cI cJ cZ cB a_o a_o_prices a_o_seats a_o_joined a_o_views v_o_rows v_o_awaited d_o_seats d_o_joined d_o_views)) [0, 2, 3, 4] rfl
  have hDc := hD.sub (ws' := (WX4_takesView cI cJ cZ cB a_o a_o_prices a_o_seats a_o_joined a_o_views v_o_rows v_o_awaited d_o_seats d_o_joined d_o_views)) [0, 2, 3, 4] (by decide) rfl
  refine cl_rwi (wr := [(a_o_prices, .inl (cI, (4, .inl d_o_prices)))]) (wsN := (WX4_takesDigit cI cJ cZ cB a_o a_o_prices a_o_seats a_o_joined a_o_views v_o_rows q1.2.1 d_o_prices q1.2.2.1 q1.2.2.2.1 q1.2.2.2.2)) (va_runV (As := [.int (v_o_rows - (1 : Int32)), .int x1]) (rest := []) ⟨hx, hb, hml, hown, hts⟩ ((kX4_takesView l D cI cJ cZ cB a_o a_o_prices a_o_seats a_o_joined a_o_views v_o_rows v_o_awaited d_o_seats d_o_joined d_o_views (v_o_rows - (1 : Int32)) x1 q1 hq2) _) (cwV 2 hts gX4_takesDigit_X4_takesView rfl rfl rfl (by decide +kernel) ⟨Nat.le_of_ble_eq_true rfl, Nat.le_of_ble_eq_true rfl⟩) ⟨PRw.blind, va_recv hK.1 hPc (ci := 4) (q0 := 0) rfl rfl, PRw.at hK hPc hDc⟩ rfl rfl hl.1 rfl (lv_room (Nat.le_of_ble_eq_true rfl)) dX4_takesDigit_59 ⟨Nat.zero_le _, Nat.zero_le _⟩) hP hD hS hA [0, 2, 3, 4] [1] [1, 0, 2, 3, 4] rfl rfl (by decide) (by decide) rfl (by decide) (fun H locs hP hD hS => ?_)
  refine lv_if_eq (tgt := 69) hx hb dX4_takesDigit_62 (by decide) (fun hc => ?_) (fun hc => ?_)
  · have hf := pf_t hc hf
    refine lv_iconst (v := (0 : Int32)) hx hb dX4_takesDigit_69 (by decide) ?_
    cases hf
    exact W.zret hx hb hr (nar_b (by decide)) (fun t ht hW => ⟨⟨rfl, by rw [ht]; exact hP, hD⟩, hS.F ht⟩) hS.2.2 dX4_takesDigit_70
  · have hf := pf_f hc hf
    refine lv_iconst (v := (1 : Int32)) hx hb dX4_takesDigit_65 (by decide) ?_
    refine lv_goto (tgt := 70) hx hb dX4_takesDigit_66 (by decide) ?_
    cases hf
    exact W.zret hx hb hr (nar_b (by decide)) (fun t ht hW => ⟨⟨rfl, by rw [ht]; exact hP, hD⟩, hS.F ht⟩) hS.2.2 dX4_takesDigit_70
def fX4_takesDigit (v_o_rows : Int32) (v_o_awaited : Int32) (d_o_prices : (Nat → Int32)) (d_o_seats : (Nat → Int32)) (d_o_joined : (Nat → Int32)) (d_o_views : (Nat → Int32)) (x1 : Int32) : Option (Int32 × Int32 × (Nat → Int32) × (Nat → Int32) × (Nat → Int32) × (Nat → Int32)) := ((fX4_hasRow v_o_rows (v_o_rows - (1 : Int32))).bind fun q1 => (if q1 = 0 then some ((0 : Int32), v_o_awaited, d_o_prices, d_o_seats, d_o_joined, d_o_views) else (if v_o_awaited = (2 : Int32) then ((fX4_takesPrice v_o_awaited d_o_prices (v_o_rows - (1 : Int32)) x1).bind fun q3 => (if ¬ (q3.1 = 0 ∨ q3.1 = 1) then none else some (q3.1, q3.2.1, q3.2.2, d_o_seats, d_o_joined, d_o_views))) else (if v_o_awaited = (3 : Int32) then fX4_takesDigit_51 v_o_rows v_o_awaited d_o_prices d_o_seats d_o_joined d_o_views x1 else (if v_o_awaited = (4 : Int32) then fX4_takesDigit_51 v_o_rows v_o_awaited d_o_prices d_o_seats d_o_joined d_o_views x1 else some ((0 : Int32), v_o_awaited, d_o_prices, d_o_seats, d_o_joined, d_o_views))))))
set_option maxRecDepth 100000 in
set_option maxHeartbeats 4000000 in
theorem kX4_takesDigit (l : Launch) (D : va_G) (cI cJ cZ cB : ClassId) (a_o : Nat) (a_o_prices : Nat) (a_o_seats : Nat) (a_o_joined : Nat) (a_o_views : Nat) (v_o_rows : Int32) (v_o_awaited : Int32) (d_o_prices : (Nat → Int32)) (d_o_seats : (Nat → Int32)) (d_o_joined : (Nat → Int32)) (d_o_views : (Nat → Int32)) (x1 : Int32) (res : Int32 × Int32 × (Nat → Int32) × (Nat → Int32) × (Nat → Int32) × (Nat → Int32)) (hf : fX4_takesDigit v_o_rows v_o_awaited d_o_prices d_o_seats d_o_joined d_o_views x1 = some res) : Rw l yX4_takesDigit wsX4_takesDigit ({ frames := 1, cells := 0, slots := 0, locals := 23 } : Room) D (tyL cI cJ cZ cB) [.ref a_o, .int x1] (WX4_takesDigit cI cJ cZ cB a_o a_o_prices a_o_seats a_o_joined a_o_views v_o_rows v_o_awaited d_o_prices d_o_seats d_o_joined d_o_views) (some (.int res.1)) (WX4_takesDigit cI cJ cZ cB a_o a_o_prices a_o_seats a_o_joined a_o_views v_o_rows res.2.1 res.2.2.1 res.2.2.2.1 res.2.2.2.2.1 res.2.2.2.2.2) := by
  refine Rw.of (cc := cX4_takesDigit) (maxL := 2) (ret := (some .boolean)) (own := RX4) (by decide) rfl rfl (Nat.le_of_ble_eq_true rfl) ?_
  intro p e s m below meth c A ls C hK hA hP hD hS hl
  obtain ⟨hx, hb, hr, hml, hts, hown, hlk⟩ := id C
  have hl : lv_has ls 2 [(0, .ref a_o), (1, .int x1)] := hl
  unfold fX4_takesDigit at hf
  refine lv_aload_n hx hb dX4_takesDigit_0 rfl (lv_at hl 0 rfl) ?_
  refine lv_aload_n hx hb dX4_takesDigit_1 rfl (lv_at hl 0 rfl) ?_
  refine va_get (D := D) (ci := 4) (v := .int v_o_rows) (C := RX4) (T := TX4) (N := 6) hx hb hts iX4_takesDigit_X4 hown hK.1 hP 0 rfl rfl 4 (by decide) (hts (.fieldLink RX4 24 "LoneSeats$Plan" "rows" "I") (by decide +kernel)) (fun _ h9 => h9) rfl dX4_takesDigit_2 ?_
  refine lv_iconst (v := (1 : Int32)) hx hb dX4_takesDigit_5 (by decide) ?_
  refine lv_isub hx hb dX4_takesDigit_6 ?_
  obtain ⟨q1, hq2, hf⟩ := pf_b hf
  have hPc := hP.sub (ws' := (WX4_hasRow cI cJ cZ cB a_o a_o_prices a_o_seats a_o_joined a_o_views v_o_rows v_o_awaited)) [0] rfl
  refine cl_roi (va_runV (As := [.int (v_o_rows - (1 : Int32))]) (rest := []) ⟨hx, hb, hml, hown, hts⟩ (kX4_hasRow l D cI cJ cZ cB a_o a_o_prices a_o_seats a_o_joined a_o_views v_o_rows v_o_awaited (v_o_rows - (1 : Int32)) q1 hq2) (cwV 1 hts gX4_takesDigit_X4_hasRow rfl rfl rfl (by decide +kernel) ⟨Nat.le_of_ble_eq_true rfl, Nat.le_of_ble_eq_true rfl⟩) ⟨PRo.blind, va_recv hK.1 hPc (ci := 4) (q0 := 0) rfl rfl, PRo.at hK hPc⟩ rfl rfl hl.1 rfl (lv_room (Nat.le_of_ble_eq_true rfl)) dX4_takesDigit_7 ⟨Nat.zero_le _, Nat.zero_le _⟩) ?_
  refine lv_if_ne (tgt := 15) hx hb dX4_takesDigit_10 (by decide) (fun hc => ?_) (fun hc => ?_)
  · have hf := pf_f hc hf
    refine lv_aload_n hx hb dX4_takesDigit_15 rfl (lv_at hl 0 rfl) ?_
    refine va_get (D := D) (ci := 4) (v := .int v_o_awaited) (C := RX4) (T := TX4) (N := 6) hx hb hts iX4_takesDigit_X4 hown hK.1 hP 0 rfl rfl 5 (by decide) (hts (.fieldLink RX4 28 "LoneSeats$Plan" "awaited" "I") (by decide +kernel)) (fun _ h9 => h9) rfl dX4_takesDigit_16 ?_
    refine lv_iconst (v := (2 : Int32)) hx hb dX4_takesDigit_19 (by decide) ?_
    refine lv_icmp_ne (tgt := 35) hx hb dX4_takesDigit_20 (by decide) (fun hc => ?_) (fun hc => ?_)
    · have hf := pf_f hc hf
      refine lv_aload_n hx hb dX4_takesDigit_35 rfl (lv_at hl 0 rfl) ?_
      refine va_get (D := D) (ci := 4) (v := .int v_o_awaited) (C := RX4) (T := TX4) (N := 6) hx hb hts iX4_takesDigit_X4 hown hK.1 hP 0 rfl rfl 5 (by decide) (hts (.fieldLink RX4 28 "LoneSeats$Plan" "awaited" "I") (by decide +kernel)) (fun _ h9 => h9) rfl dX4_takesDigit_36 ?_
      refine lv_iconst (v := (3 : Int32)) hx hb dX4_takesDigit_39 (by decide) ?_
      refine lv_icmp_eq (tgt := 51) hx hb dX4_takesDigit_40 (by decide) (fun hc => ?_) (fun hc => ?_)
      · have hf := pf_t hc hf
        exact tX4_takesDigit_51 C hK hA  v_o_rows v_o_awaited d_o_prices d_o_seats d_o_joined d_o_views x1 _ _ ls _ hP hD hS (lv_sub hl [0, 1] rfl) hf
      · have hf := pf_f hc hf
        refine lv_aload_n hx hb dX4_takesDigit_43 rfl (lv_at hl 0 rfl) ?_
        refine va_get (D := D) (ci := 4) (v := .int v_o_awaited) (C := RX4) (T := TX4) (N := 6) hx hb hts iX4_takesDigit_X4 hown hK.1 hP 0 rfl rfl 5 (by decide) (hts (.fieldLink RX4 28 "LoneSeats$Plan" "awaited" "I") (by decide +kernel)) (fun _ h9 => h9) rfl dX4_takesDigit_44 ?_
        refine lv_iconst (v := (4 : Int32)) hx hb dX4_takesDigit_47 (by decide) ?_
        refine lv_icmp_ne (tgt := 69) hx hb dX4_takesDigit_48 (by decide) (fun hc => ?_) (fun hc => ?_)
        · have hf := pf_f hc hf
          refine lv_iconst (v := (0 : Int32)) hx hb dX4_takesDigit_69 (by decide) ?_
          cases hf
          exact W.zret hx hb hr (nar_b (by decide)) (fun t ht hW => ⟨⟨rfl, by rw [ht]; exact hP, hD⟩, hS.F ht⟩) hS.2.2 dX4_takesDigit_70
        · have hf := pf_t hc hf
          exact tX4_takesDigit_51 C hK hA  v_o_rows v_o_awaited d_o_prices d_o_seats d_o_joined d_o_views x1 _ _ ls _ hP hD hS (lv_sub hl [0, 1] rfl) hf
    · have hf := pf_t hc hf
      refine lv_aload_n hx hb dX4_takesDigit_23 rfl (lv_at hl 0 rfl) ?_
      refine lv_aload_n hx hb dX4_takesDigit_24 rfl (lv_at hl 0 rfl) ?_
      refine va_get (D := D) (ci := 4) (v := .int v_o_rows) (C := RX4) (T := TX4) (N := 6) hx hb hts iX4_takesDigit_X4 hown hK.1 hP 0 rfl rfl 4 (by decide) (hts (.fieldLink RX4 24 "LoneSeats$Plan" "rows" "I") (by decide +kernel)) (fun _ h9 => h9) rfl dX4_takesDigit_25 ?_
      refine lv_iconst (v := (1 : Int32)) hx hb dX4_takesDigit_28 (by decide) ?_
      refine lv_isub hx hb dX4_takesDigit_29 ?_
      refine lv_iload_n hx hb dX4_takesDigit_30 rfl (lv_at hl 1 rfl) ?_
      obtain ⟨q3, hq4, hf⟩ := pf_b hf
      have hPc := hP.sub (ws' := (WX4_takesPrice cI cJ cZ cB a_o a_o_prices a_o_seats a_o_joined a_o_views v_o_rows v_o_awaited d_o_prices)) [0, 1] rfl
      have hDc := hD.sub (ws' := (WX4_takesPrice cI cJ cZ cB a_o a_o_prices a_o_seats a_o_joined a_o_views v_o_rows v_o_awaited d_o_prices)) [0, 1] (by decide) rfl
      refine cl_rwi (wr := [(a_o_seats, .inl (cI, (4, .inl d_o_seats))), (a_o_joined, .inl (cI, (4, .inl d_o_joined))), (a_o_views, .inl (cI, (36, .inl d_o_views)))]) (wsN := (WX4_takesDigit cI cJ cZ cB a_o a_o_prices a_o_seats a_o_joined a_o_views v_o_rows q3.2.1 q3.2.2 d_o_seats d_o_joined d_o_views)) (va_runV (As := [.int (v_o_rows - (1 : Int32)), .int x1]) (rest := []) ⟨hx, hb, hml, hown, hts⟩ ((kX4_takesPrice l D cI cJ cZ cB a_o a_o_prices a_o_seats a_o_joined a_o_views v_o_rows v_o_awaited d_o_prices (v_o_rows - (1 : Int32)) x1 q3 hq4) _) (cwV 2 hts gX4_takesDigit_X4_takesPrice rfl rfl rfl (by decide +kernel) ⟨Nat.le_of_ble_eq_true rfl, Nat.le_of_ble_eq_true rfl⟩) ⟨PRw.blind, va_recv hK.1 hPc (ci := 4) (q0 := 0) rfl rfl, PRw.at hK hPc hDc⟩ rfl rfl hl.1 rfl (lv_room (Nat.le_of_ble_eq_true rfl)) dX4_takesDigit_31 ⟨Nat.zero_le _, Nat.zero_le _⟩) hP hD hS hA [0, 1] [2, 3, 4] [3, 4, 0, 1, 2] rfl rfl (by decide) (by decide) rfl (by decide) (fun H locs hP hD hS => ?_)
      obtain ⟨hz5, hf⟩ := pf_x hf
      cases hf
      exact W.zret hx hb hr (nar_b (Decidable.not_not.mp hz5)) (fun t ht hW => ⟨⟨rfl, by rw [ht]; exact hP, hD⟩, hS.F ht⟩) hS.2.2 dX4_takesDigit_34
  · have hf := pf_t hc hf
    refine lv_iconst (v := (0 : Int32)) hx hb dX4_takesDigit_13 (by decide) ?_
    cases hf
    exact W.zret hx hb hr (nar_b (by decide)) (fun t ht hW => ⟨⟨rfl, by rw [ht]; exact hP, hD⟩, hS.F ht⟩) hS.2.2 dX4_takesDigit_14
abbrev WX4_takes (cI cJ cZ cB : ClassId) (a_o : Nat) (a_o_prices : Nat) (a_o_seats : Nat) (a_o_joined : Nat) (a_o_views : Nat) (v_o_rows : Int32) (v_o_awaited : Int32) (d_o_prices : (Nat → Int32)) (d_o_seats : (Nat → Int32)) (d_o_joined : (Nat → Int32)) (d_o_views : (Nat → Int32)) : va_W := [(a_o, .inr (4, [.ref a_o_prices, .ref a_o_seats, .ref a_o_joined, .ref a_o_views, .int v_o_rows, .int v_o_awaited])), (a_o_prices, .inl (cI, (4, .inl d_o_prices))), (a_o_seats, .inl (cI, (4, .inl d_o_seats))), (a_o_joined, .inl (cI, (4, .inl d_o_joined))), (a_o_views, .inl (cI, (36, .inl d_o_views)))]
def fX4_takes (v_o_rows : Int32) (v_o_awaited : Int32) (d_o_prices : (Nat → Int32)) (d_o_seats : (Nat → Int32)) (d_o_joined : (Nat → Int32)) (d_o_views : (Nat → Int32)) (x1 : Int32) : Option (Int32 × Int32 × Int32 × (Nat → Int32) × (Nat → Int32) × (Nat → Int32) × (Nat → Int32)) := (if x1 = (72 : Int32) then ((fX4_takesHead v_o_awaited).bind fun q2 => (if ¬ (q2.1 = 0 ∨ q2.1 = 1) then none else some (q2.1, v_o_rows, q2.2, d_o_prices, d_o_seats, d_o_joined, d_o_views))) else (if x1 = (114 : Int32) then ((fX4_takesRow v_o_rows v_o_awaited d_o_seats d_o_joined).bind fun q6 => (if ¬ (q6.1 = 0 ∨ q6.1 = 1) then none else some (q6.1, q6.2.1, q6.2.2.1, d_o_prices, q6.2.2.2.1, q6.2.2.2.2, d_o_views))) else (if x1 = (124 : Int32) then ((fX4_takesAisle v_o_rows v_o_awaited d_o_seats).bind fun q10 => (if ¬ (q10.1 = 0 ∨ q10.1 = 1) then none else some (q10.1, v_o_rows, q10.2, d_o_prices, d_o_seats, d_o_joined, d_o_views))) else (if x1 < (48 : Int32) then some ((0 : Int32), v_o_rows, v_o_awaited, d_o_prices, d_o_seats, d_o_joined, d_o_views) else (if (57 : Int32) < x1 then some ((0 : Int32), v_o_rows, v_o_awaited, d_o_prices, d_o_seats, d_o_joined, d_o_views) else ((fX4_takesDigit v_o_rows v_o_awaited d_o_prices d_o_seats d_o_joined d_o_views (x1 - (48 : Int32))).bind fun q13 => (if q13.1 = 0 then some ((0 : Int32), v_o_rows, q13.2.1, q13.2.2.1, q13.2.2.2.1, q13.2.2.2.2.1, q13.2.2.2.2.2) else some ((1 : Int32), v_o_rows, q13.2.1, q13.2.2.1, q13.2.2.2.1, q13.2.2.2.2.1, q13.2.2.2.2.2))))))))
set_option maxRecDepth 100000 in
set_option maxHeartbeats 4000000 in
theorem kX4_takes (l : Launch) (D : va_G) (cI cJ cZ cB : ClassId) (a_o : Nat) (a_o_prices : Nat) (a_o_seats : Nat) (a_o_joined : Nat) (a_o_views : Nat) (v_o_rows : Int32) (v_o_awaited : Int32) (d_o_prices : (Nat → Int32)) (d_o_seats : (Nat → Int32)) (d_o_joined : (Nat → Int32)) (d_o_views : (Nat → Int32)) (x1 : Int32) (res : Int32 × Int32 × Int32 × (Nat → Int32) × (Nat → Int32) × (Nat → Int32) × (Nat → Int32)) (hf : fX4_takes v_o_rows v_o_awaited d_o_prices d_o_seats d_o_joined d_o_views x1 = some res) : Rw l yX4_takes wsX4_takes ({ frames := 3, cells := 0, slots := 0, locals := 62 } : Room) D (tyL cI cJ cZ cB) [.ref a_o, .int x1] (WX4_takes cI cJ cZ cB a_o a_o_prices a_o_seats a_o_joined a_o_views v_o_rows v_o_awaited d_o_prices d_o_seats d_o_joined d_o_views) (some (.int res.1)) (WX4_takes cI cJ cZ cB a_o a_o_prices a_o_seats a_o_joined a_o_views res.2.1 res.2.2.1 res.2.2.2.1 res.2.2.2.2.1 res.2.2.2.2.2.1 res.2.2.2.2.2.2) := by
  refine Rw.of (cc := cX4_takes) (maxL := 2) (ret := (some .boolean)) (own := RX4) (by decide) rfl rfl (Nat.le_of_ble_eq_true rfl) ?_
  intro p e s m below meth c A ls C hK hA hP hD hS hl
  obtain ⟨hx, hb, hr, hml, hts, hown, hlk⟩ := id C
  have hl : lv_has ls 2 [(0, .ref a_o), (1, .int x1)] := hl
  unfold fX4_takes at hf
  refine lv_iload_n hx hb dX4_takes_0 rfl (lv_at hl 1 rfl) ?_
  by_cases hs1 : x1 = (72 : Int32)
  · have hf := pf_t hs1 hf
    refine lv_lookup (tgt := 36) (off := 35) hx hb dX4_takes_1 (by decide) (by rw [hs1]; rfl) (by decide) ?_
    refine lv_aload_n hx hb dX4_takes_36 rfl (lv_at hl 0 rfl) ?_
    obtain ⟨q2, hq3, hf⟩ := pf_b hf
    have hPc := hP.sub (ws' := (WX4_takesHead cI cJ cZ cB a_o a_o_prices a_o_seats a_o_joined a_o_views v_o_rows v_o_awaited)) [0] rfl
    have hDc := hD.sub (ws' := (WX4_takesHead cI cJ cZ cB a_o a_o_prices a_o_seats a_o_joined a_o_views v_o_rows v_o_awaited)) [0] (by decide) rfl
    refine cl_rwi (wr := [(a_o_prices, .inl (cI, (4, .inl d_o_prices))), (a_o_seats, .inl (cI, (4, .inl d_o_seats))), (a_o_joined, .inl (cI, (4, .inl d_o_joined))), (a_o_views, .inl (cI, (36, .inl d_o_views)))]) (wsN := (WX4_takes cI cJ cZ cB a_o a_o_prices a_o_seats a_o_joined a_o_views v_o_rows q2.2 d_o_prices d_o_seats d_o_joined d_o_views)) (va_runV (As := []) (rest := []) ⟨hx, hb, hml, hown, hts⟩ ((kX4_takesHead l D cI cJ cZ cB a_o a_o_prices a_o_seats a_o_joined a_o_views v_o_rows v_o_awaited q2 hq3) _) (cwV 0 hts gX4_takes_X4_takesHead rfl rfl rfl (by decide +kernel) ⟨Nat.le_of_ble_eq_true rfl, Nat.le_of_ble_eq_true rfl⟩) ⟨PRw.blind, va_recv hK.1 hPc (ci := 4) (q0 := 0) rfl rfl, PRw.at hK hPc hDc⟩ rfl rfl hl.1 rfl (lv_room (Nat.le_of_ble_eq_true rfl)) dX4_takes_37 ⟨Nat.zero_le _, Nat.zero_le _⟩) hP hD hS hA [0] [1, 2, 3, 4] [4, 0, 1, 2, 3] rfl rfl (by decide) (by decide) rfl (by decide) (fun H locs hP hD hS => ?_)
    obtain ⟨hz4, hf⟩ := pf_x hf
    cases hf
    exact W.zret hx hb hr (nar_b (Decidable.not_not.mp hz4)) (fun t ht hW => ⟨⟨rfl, by rw [ht]; exact hP, hD⟩, hS.F ht⟩) hS.2.2 dX4_takes_40
  · have hf := pf_f hs1 hf
    by_cases hs5 : x1 = (114 : Int32)
    · have hf := pf_t hs5 hf
      refine lv_lookup (tgt := 41) (off := 40) hx hb dX4_takes_1 (by decide) (by rw [hs5]; rfl) (by decide) ?_
      refine lv_aload_n hx hb dX4_takes_41 rfl (lv_at hl 0 rfl) ?_
      obtain ⟨q6, hq7, hf⟩ := pf_b hf
      have hPc := hP.sub (ws' := (WX4_takesRow cI cJ cZ cB a_o a_o_prices a_o_seats a_o_joined a_o_views v_o_rows v_o_awaited d_o_seats d_o_joined)) [0, 2, 3] rfl
      have hDc := hD.sub (ws' := (WX4_takesRow cI cJ cZ cB a_o a_o_prices a_o_seats a_o_joined a_o_views v_o_rows v_o_awaited d_o_seats d_o_joined)) [0, 2, 3] (by decide) rfl
      refine cl_rwi (wr := [(a_o_prices, .inl (cI, (4, .inl d_o_prices))), (a_o_views, .inl (cI, (36, .inl d_o_views)))]) (wsN := (WX4_takes cI cJ cZ cB a_o a_o_prices a_o_seats a_o_joined a_o_views q6.2.1 q6.2.2.1 d_o_prices q6.2.2.2.1 q6.2.2.2.2 d_o_views)) (va_runV (As := []) (rest := []) ⟨hx, hb, hml, hown, hts⟩ ((kX4_takesRow l D cI cJ cZ cB a_o a_o_prices a_o_seats a_o_joined a_o_views v_o_rows v_o_awaited d_o_seats d_o_joined q6 hq7) _) (cwV 0 hts gX4_takes_X4_takesRow rfl rfl rfl (by decide +kernel) ⟨Nat.le_of_ble_eq_true rfl, Nat.le_of_ble_eq_true rfl⟩) ⟨PRw.blind, va_recv hK.1 hPc (ci := 4) (q0 := 0) rfl rfl, PRw.at hK hPc hDc⟩ rfl rfl hl.1 rfl (lv_room (Nat.le_of_ble_eq_true rfl)) dX4_takes_42 ⟨Nat.zero_le _, Nat.zero_le _⟩) hP hD hS hA [0, 2, 3] [1, 4] [2, 0, 3, 4, 1] rfl rfl (by decide) (by decide) rfl (by decide) (fun H locs hP hD hS => ?_)
      obtain ⟨hz8, hf⟩ := pf_x hf
      cases hf
      exact W.zret hx hb hr (nar_b (Decidable.not_not.mp hz8)) (fun t ht hW => ⟨⟨rfl, by rw [ht]; exact hP, hD⟩, hS.F ht⟩) hS.2.2 dX4_takes_45
    · have hf := pf_f hs5 hf
      by_cases hs9 : x1 = (124 : Int32)
      · have hf := pf_t hs9 hf
        refine lv_lookup (tgt := 46) (off := 45) hx hb dX4_takes_1 (by decide) (by rw [hs9]; rfl) (by decide) ?_
        refine lv_aload_n hx hb dX4_takes_46 rfl (lv_at hl 0 rfl) ?_
        obtain ⟨q10, hq11, hf⟩ := pf_b hf
        have hPc := hP.sub (ws' := (WX4_takesAisle cI cJ cZ cB a_o a_o_prices a_o_seats a_o_joined a_o_views v_o_rows v_o_awaited d_o_seats)) [0, 2] rfl
        have hDc := hD.sub (ws' := (WX4_takesAisle cI cJ cZ cB a_o a_o_prices a_o_seats a_o_joined a_o_views v_o_rows v_o_awaited d_o_seats)) [0, 2] (by decide) rfl
        refine cl_rwi (wr := [(a_o_prices, .inl (cI, (4, .inl d_o_prices))), (a_o_joined, .inl (cI, (4, .inl d_o_joined))), (a_o_views, .inl (cI, (36, .inl d_o_views)))]) (wsN := (WX4_takes cI cJ cZ cB a_o a_o_prices a_o_seats a_o_joined a_o_views v_o_rows q10.2 d_o_prices d_o_seats d_o_joined d_o_views)) (va_runV (As := []) (rest := []) ⟨hx, hb, hml, hown, hts⟩ ((kX4_takesAisle l D cI cJ cZ cB a_o a_o_prices a_o_seats a_o_joined a_o_views v_o_rows v_o_awaited d_o_seats q10 hq11) _) (cwV 0 hts gX4_takes_X4_takesAisle rfl rfl rfl (by decide +kernel) ⟨Nat.le_of_ble_eq_true rfl, Nat.le_of_ble_eq_true rfl⟩) ⟨PRw.blind, va_recv hK.1 hPc (ci := 4) (q0 := 0) rfl rfl, PRw.at hK hPc hDc⟩ rfl rfl hl.1 rfl (lv_room (Nat.le_of_ble_eq_true rfl)) dX4_takes_47 ⟨Nat.zero_le _, Nat.zero_le _⟩) hP hD hS hA [0, 2] [1, 3, 4] [3, 0, 4, 1, 2] rfl rfl (by decide) (by decide) rfl (by decide) (fun H locs hP hD hS => ?_)
        obtain ⟨hz12, hf⟩ := pf_x hf
        cases hf
        exact W.zret hx hb hr (nar_b (Decidable.not_not.mp hz12)) (fun t ht hW => ⟨⟨rfl, by rw [ht]; exact hP, hD⟩, hS.F ht⟩) hS.2.2 dX4_takes_50
      · have hf := pf_f hs9 hf
        refine lv_lookup (tgt := 51) (off := 50) hx hb dX4_takes_1 (by decide) ((lv_osw hs1 (by decide)).trans <| (lv_osw hs5 (by decide)).trans <| (lv_osw hs9 (by decide)).trans <| rfl) (by decide) ?_
        refine lv_iload_n hx hb dX4_takes_51 rfl (lv_at hl 1 rfl) ?_
        refine lv_bipush (v := (48 : Int32)) hx hb dX4_takes_52 (by decide) ?_
        refine lv_icmp_lt (tgt := 78) hx hb dX4_takes_54 (by decide) (fun hc => ?_) (fun hc => ?_)
        · have hf := pf_t hc hf
          refine lv_iconst (v := (0 : Int32)) hx hb dX4_takes_78 (by decide) ?_
          cases hf
          exact W.zret hx hb hr (nar_b (by decide)) (fun t ht hW => ⟨⟨rfl, by rw [ht]; exact hP, hD⟩, hS.F ht⟩) hS.2.2 dX4_takes_79
        · have hf := pf_f hc hf
          refine lv_iload_n hx hb dX4_takes_57 rfl (lv_at hl 1 rfl) ?_
          refine lv_bipush (v := (57 : Int32)) hx hb dX4_takes_58 (by decide) ?_
          refine lv_icmp_gt (tgt := 78) hx hb dX4_takes_60 (by decide) (fun hc => ?_) (fun hc => ?_)
          · have hf := pf_t hc hf
            refine lv_iconst (v := (0 : Int32)) hx hb dX4_takes_78 (by decide) ?_
            cases hf
            exact W.zret hx hb hr (nar_b (by decide)) (fun t ht hW => ⟨⟨rfl, by rw [ht]; exact hP, hD⟩, hS.F ht⟩) hS.2.2 dX4_takes_79
          · have hf := pf_f hc hf
            refine lv_aload_n hx hb dX4_takes_63 rfl (lv_at hl 0 rfl) ?_
            refine lv_iload_n hx hb dX4_takes_64 rfl (lv_at hl 1 rfl) ?_
            refine lv_bipush (v := (48 : Int32)) hx hb dX4_takes_65 (by decide) ?_
            refine lv_isub hx hb dX4_takes_67 ?_
            obtain ⟨q13, hq14, hf⟩ := pf_b hf
            have hPc := hP.sub (ws' := (WX4_takesDigit cI cJ cZ cB a_o a_o_prices a_o_seats a_o_joined a_o_views v_o_rows v_o_awaited d_o_prices d_o_seats d_o_joined d_o_views)) [0, 1, 2, 3, 4] rfl
            have hDc := hD.sub (ws' := (WX4_takesDigit cI cJ cZ cB a_o a_o_prices a_o_seats a_o_joined a_o_views v_o_rows v_o_awaited d_o_prices d_o_seats d_o_joined d_o_views)) [0, 1, 2, 3, 4] (by decide) rfl
            refine cl_rwi (wr := []) (wsN := (WX4_takes cI cJ cZ cB a_o a_o_prices a_o_seats a_o_joined a_o_views v_o_rows q13.2.1 q13.2.2.1 q13.2.2.2.1 q13.2.2.2.2.1 q13.2.2.2.2.2)) (va_runV (As := [.int (x1 - (48 : Int32))]) (rest := []) ⟨hx, hb, hml, hown, hts⟩ ((kX4_takesDigit l D cI cJ cZ cB a_o a_o_prices a_o_seats a_o_joined a_o_views v_o_rows v_o_awaited d_o_prices d_o_seats d_o_joined d_o_views (x1 - (48 : Int32)) q13 hq14) _) (cwV 1 hts gX4_takes_X4_takesDigit rfl rfl rfl (by decide +kernel) ⟨Nat.le_of_ble_eq_true rfl, Nat.le_of_ble_eq_true rfl⟩) ⟨PRw.blind, va_recv hK.1 hPc (ci := 4) (q0 := 0) rfl rfl, PRw.at hK hPc hDc⟩ rfl rfl hl.1 rfl (lv_room (Nat.le_of_ble_eq_true rfl)) dX4_takes_68 ⟨Nat.zero_le _, Nat.zero_le _⟩) hP hD hS hA [0, 1, 2, 3, 4] [] [0, 1, 2, 3, 4] rfl rfl (by decide) (by decide) rfl (by decide) (fun H locs hP hD hS => ?_)
            refine lv_if_eq (tgt := 78) hx hb dX4_takes_71 (by decide) (fun hc => ?_) (fun hc => ?_)
            · have hf := pf_t hc hf
              refine lv_iconst (v := (0 : Int32)) hx hb dX4_takes_78 (by decide) ?_
              cases hf
              exact W.zret hx hb hr (nar_b (by decide)) (fun t ht hW => ⟨⟨rfl, by rw [ht]; exact hP, hD⟩, hS.F ht⟩) hS.2.2 dX4_takes_79
            · have hf := pf_f hc hf
              refine lv_iconst (v := (1 : Int32)) hx hb dX4_takes_74 (by decide) ?_
              refine lv_goto (tgt := 79) hx hb dX4_takes_75 (by decide) ?_
              cases hf
              exact W.zret hx hb hr (nar_b (by decide)) (fun t ht hW => ⟨⟨rfl, by rw [ht]; exact hP, hD⟩, hS.F ht⟩) hS.2.2 dX4_takes_79
abbrev WX4_readFrom (cI cJ cZ cB : ClassId) (a_o : Nat) (a_o_prices : Nat) (a_o_seats : Nat) (a_o_joined : Nat) (a_o_views : Nat) (a_p1 : Nat) (a_p1_letters : Nat) (v_o_rows : Int32) (v_o_awaited : Int32) (d_o_prices : (Nat → Int32)) (d_o_seats : (Nat → Int32)) (d_o_joined : (Nat → Int32)) (d_o_views : (Nat → Int32)) (v_p1_length : Int32) (d_p1_letters : (Nat → Int32)) : va_W := [(a_o, .inr (4, [.ref a_o_prices, .ref a_o_seats, .ref a_o_joined, .ref a_o_views, .int v_o_rows, .int v_o_awaited])), (a_o_prices, .inl (cI, (4, .inl d_o_prices))), (a_o_seats, .inl (cI, (4, .inl d_o_seats))), (a_o_joined, .inl (cI, (4, .inl d_o_joined))), (a_o_views, .inl (cI, (36, .inl d_o_views))), (a_p1, .inr (7, [.ref a_p1_letters, .int v_p1_length])), (a_p1_letters, .inl (cI, (80, .inl d_p1_letters)))]
set_option maxRecDepth 20000 in
theorem iX4_readFrom_X4 : ∀ w ∈ wsX40, w ∈ wsX4_readFrom := by decide +kernel
def fX4_readFrom_12 : Nat → Int32 → Int32 → (Nat → Int32) → (Nat → Int32) → (Nat → Int32) → (Nat → Int32) → Int32 → (Nat → Int32) → Int32 → Option (Int32 × Int32 × Int32 × (Nat → Int32) × (Nat → Int32) × (Nat → Int32) × (Nat → Int32))
  | 0, _, _, _, _, _, _, _, _, _ => none
  | n + 1, v_o_rows, v_o_awaited, d_o_prices, d_o_seats, d_o_joined, d_o_views, v_p1_length, d_p1_letters, x2 => ((fX7_length v_p1_length).bind fun q1 => (if q1 ≤ x2 then (if v_o_awaited = (1 : Int32) then some ((-9 : Int32), v_o_rows, v_o_awaited, d_o_prices, d_o_seats, d_o_joined, d_o_views) else (if v_o_awaited = (4 : Int32) then some ((-9 : Int32), v_o_rows, v_o_awaited, d_o_prices, d_o_seats, d_o_joined, d_o_views) else ((fX7_length v_p1_length).bind fun q3 => some (q3, v_o_rows, v_o_awaited, d_o_prices, d_o_seats, d_o_joined, d_o_views)))) else ((fX7_letterAt v_p1_length d_p1_letters x2).bind fun q5 => ((fX4_takes v_o_rows v_o_awaited d_o_prices d_o_seats d_o_joined d_o_views q5).bind fun q7 => (if q7.1 = 0 then some (x2, q7.2.1, q7.2.2.1, q7.2.2.2.1, q7.2.2.2.2.1, q7.2.2.2.2.2.1, q7.2.2.2.2.2.2) else fX4_readFrom_12 n q7.2.1 q7.2.2.1 q7.2.2.2.1 q7.2.2.2.2.1 q7.2.2.2.2.2.1 q7.2.2.2.2.2.2 v_p1_length d_p1_letters (x2 + (1 : Int32)))))))
set_option maxRecDepth 100000 in
set_option maxHeartbeats 4000000 in
theorem tX4_readFrom_12 {p : Program} {l : Launch} {e : Env} {s : State} {m : MethodId} {args : Array Value} {below : List Frame} {meth : Method} {c : Code} {D : va_G} {cI cJ cZ cB : ClassId} {a_o : Nat} {a_o_prices : Nat} {a_o_seats : Nat} {a_o_joined : Nat} {a_o_views : Nat} {a_p1 : Nat} {a_p1_letters : Nat} {A : Nat → Prop} (C : Cx p s m args meth c cX4_readFrom 3 (some .int) wsX4_readFrom RX4) (hK : Kw D (tyL cI cJ cZ cB) s) (hA : ∀ q : Nat, s.heap.size ≤ q → A q) : ∀ (n : Nat), ∀ (v_o_rows : Int32) (v_o_awaited : Int32) (d_o_prices : (Nat → Int32)) (d_o_seats : (Nat → Int32)) (d_o_joined : (Nat → Int32)) (d_o_views : (Nat → Int32)) (v_p1_length : Int32) (d_p1_letters : (Nat → Int32)) (x2 : Int32) (H : Heap) (locs : List Loc) (ls : Array Slot) (res : Int32 × Int32 × Int32 × (Nat → Int32) × (Nat → Int32) × (Nat → Int32) × (Nat → Int32)), va_P D vwCl (WX4_readFrom cI cJ cZ cB a_o a_o_prices a_o_seats a_o_joined a_o_views a_p1 a_p1_letters v_o_rows v_o_awaited d_o_prices d_o_seats d_o_joined d_o_views v_p1_length d_p1_letters) H → va_D A (WX4_readFrom cI cJ cZ cB a_o a_o_prices a_o_seats a_o_joined a_o_views a_p1 a_p1_letters v_o_rows v_o_awaited d_o_prices d_o_seats d_o_joined d_o_views v_p1_length d_p1_letters) → va_S A s.heap H locs → lv_has ls 3 [(0, .ref a_o), (1, .ref a_p1), (2, .int x2)] → fX4_readFrom_12 n v_o_rows v_o_awaited d_o_prices d_o_seats d_o_joined d_o_views v_p1_length d_p1_letters x2 = some res → W p l e ({ frames := 4, cells := 0, slots := 0, locals := 83 } : Room) s m args below meth c H locs 0 0 (MQ below (QRw D A (WX4_readFrom cI cJ cZ cB a_o a_o_prices a_o_seats a_o_joined a_o_views a_p1 a_p1_letters res.2.1 res.2.2.1 res.2.2.2.1 res.2.2.2.2.1 res.2.2.2.2.2.1 res.2.2.2.2.2.2 v_p1_length d_p1_letters) (some (.int res.1))) args s 0 0 A) (F0 m 12 ls []) := by
  obtain ⟨hx, hb, hr, hml, hts, hown, hlk⟩ := id C
  intro n
  induction n with
  | zero =>
    intro v_o_rows v_o_awaited d_o_prices d_o_seats d_o_joined d_o_views v_p1_length d_p1_letters x2 H locs ls res hP hD hS hl hf
    rw [fX4_readFrom_12] at hf
    cases hf
  | succ n ih =>
    intro v_o_rows v_o_awaited d_o_prices d_o_seats d_o_joined d_o_views v_p1_length d_p1_letters x2 H locs ls res hP hD hS hl hf
    rw [fX4_readFrom_12] at hf
    refine lv_iload_n hx hb dX4_readFrom_12 rfl (lv_at hl 2 rfl) ?_
    refine lv_aload_n hx hb dX4_readFrom_13 rfl (lv_at hl 1 rfl) ?_
    obtain ⟨q1, hq2, hf⟩ := pf_b hf
    have hPc := hP.sub (ws' := (WX7_length cI cJ cZ cB a_p1 a_p1_letters v_p1_length)) [5] rfl
    refine cl_roi (va_runV (As := []) (rest := [.int x2]) ⟨hx, hb, hml, hown, hts⟩ (kX7_length l D cI cJ cZ cB a_p1 a_p1_letters v_p1_length q1 hq2) (cwV 0 hts gX4_readFrom_X7_length rfl rfl rfl (by decide +kernel) ⟨Nat.le_of_ble_eq_true rfl, Nat.le_of_ble_eq_true rfl⟩) ⟨PRo.blind, va_recv hK.1 hPc (ci := 7) (q0 := 0) rfl rfl, PRo.at hK hPc⟩ rfl rfl hl.1 rfl (lv_room (Nat.le_of_ble_eq_true rfl)) dX4_readFrom_14 ⟨Nat.zero_le _, Nat.zero_le _⟩) ?_
    refine lv_icmp_ge (tgt := 40) hx hb dX4_readFrom_17 (by decide) (fun hc => ?_) (fun hc => ?_)
    · have hf := pf_t hc hf
      refine lv_aload_n hx hb dX4_readFrom_40 rfl (lv_at hl 0 rfl) ?_
      refine va_get (D := D) (ci := 4) (v := .int v_o_awaited) (C := RX4) (T := TX4) (N := 6) hx hb hts iX4_readFrom_X4 hown hK.1 hP 0 rfl rfl 5 (by decide) (hts (.fieldLink RX4 28 "LoneSeats$Plan" "awaited" "I") (by decide +kernel)) (fun _ h9 => h9) rfl dX4_readFrom_41 ?_
      refine lv_iconst (v := (1 : Int32)) hx hb dX4_readFrom_44 (by decide) ?_
      refine lv_icmp_eq (tgt := 56) hx hb dX4_readFrom_45 (by decide) (fun hc => ?_) (fun hc => ?_)
      · have hf := pf_t hc hf
        refine lv_bipush (v := (-9 : Int32)) hx hb dX4_readFrom_56 (by decide) ?_
        refine lv_goto (tgt := 65) hx hb dX4_readFrom_58 (by decide) ?_
        cases hf
        exact W.iret hx hb hr (fun t ht hW => ⟨⟨rfl, by rw [ht]; exact hP, hD⟩, hS.F ht⟩) hS.2.2 dX4_readFrom_65
      · have hf := pf_f hc hf
        refine lv_aload_n hx hb dX4_readFrom_48 rfl (lv_at hl 0 rfl) ?_
        refine va_get (D := D) (ci := 4) (v := .int v_o_awaited) (C := RX4) (T := TX4) (N := 6) hx hb hts iX4_readFrom_X4 hown hK.1 hP 0 rfl rfl 5 (by decide) (hts (.fieldLink RX4 28 "LoneSeats$Plan" "awaited" "I") (by decide +kernel)) (fun _ h9 => h9) rfl dX4_readFrom_49 ?_
        refine lv_iconst (v := (4 : Int32)) hx hb dX4_readFrom_52 (by decide) ?_
        refine lv_icmp_ne (tgt := 61) hx hb dX4_readFrom_53 (by decide) (fun hc => ?_) (fun hc => ?_)
        · have hf := pf_f hc hf
          refine lv_aload_n hx hb dX4_readFrom_61 rfl (lv_at hl 1 rfl) ?_
          obtain ⟨q3, hq4, hf⟩ := pf_b hf
          have hPc := hP.sub (ws' := (WX7_length cI cJ cZ cB a_p1 a_p1_letters v_p1_length)) [5] rfl
          refine cl_roi (va_runV (As := []) (rest := []) ⟨hx, hb, hml, hown, hts⟩ (kX7_length l D cI cJ cZ cB a_p1 a_p1_letters v_p1_length q3 hq4) (cwV 0 hts gX4_readFrom_X7_length rfl rfl rfl (by decide +kernel) ⟨Nat.le_of_ble_eq_true rfl, Nat.le_of_ble_eq_true rfl⟩) ⟨PRo.blind, va_recv hK.1 hPc (ci := 7) (q0 := 0) rfl rfl, PRo.at hK hPc⟩ rfl rfl hl.1 rfl (lv_room (Nat.le_of_ble_eq_true rfl)) dX4_readFrom_62 ⟨Nat.zero_le _, Nat.zero_le _⟩) ?_
          cases hf
          exact W.iret hx hb hr (fun t ht hW => ⟨⟨rfl, by rw [ht]; exact hP, hD⟩, hS.F ht⟩) hS.2.2 dX4_readFrom_65
        · have hf := pf_t hc hf
          refine lv_bipush (v := (-9 : Int32)) hx hb dX4_readFrom_56 (by decide) ?_
          refine lv_goto (tgt := 65) hx hb dX4_readFrom_58 (by decide) ?_
          cases hf
          exact W.iret hx hb hr (fun t ht hW => ⟨⟨rfl, by rw [ht]; exact hP, hD⟩, hS.F ht⟩) hS.2.2 dX4_readFrom_65
    · have hf := pf_f hc hf
      refine lv_aload_n hx hb dX4_readFrom_20 rfl (lv_at hl 0 rfl) ?_
      refine lv_aload_n hx hb dX4_readFrom_21 rfl (lv_at hl 1 rfl) ?_
      refine lv_iload_n hx hb dX4_readFrom_22 rfl (lv_at hl 2 rfl) ?_
      obtain ⟨q5, hq6, hf⟩ := pf_b hf
      have hPc := hP.sub (ws' := (WX7_letterAt cI cJ cZ cB a_p1 a_p1_letters v_p1_length d_p1_letters)) [5, 6] rfl
      refine cl_roi (va_runV (As := [.int x2]) (rest := [.ref a_o]) ⟨hx, hb, hml, hown, hts⟩ (kX7_letterAt l D cI cJ cZ cB a_p1 a_p1_letters v_p1_length d_p1_letters x2 q5 hq6) (cwV 1 hts gX4_readFrom_X7_letterAt rfl rfl rfl (by decide +kernel) ⟨Nat.le_of_ble_eq_true rfl, Nat.le_of_ble_eq_true rfl⟩) ⟨PRo.blind, va_recv hK.1 hPc (ci := 7) (q0 := 0) rfl rfl, PRo.at hK hPc⟩ rfl rfl hl.1 rfl (lv_room (Nat.le_of_ble_eq_true rfl)) dX4_readFrom_23 ⟨Nat.zero_le _, Nat.zero_le _⟩) ?_
      obtain ⟨q7, hq8, hf⟩ := pf_b hf
      have hPc := hP.sub (ws' := (WX4_takes cI cJ cZ cB a_o a_o_prices a_o_seats a_o_joined a_o_views v_o_rows v_o_awaited d_o_prices d_o_seats d_o_joined d_o_views)) [0, 1, 2, 3, 4] rfl
      have hDc := hD.sub (ws' := (WX4_takes cI cJ cZ cB a_o a_o_prices a_o_seats a_o_joined a_o_views v_o_rows v_o_awaited d_o_prices d_o_seats d_o_joined d_o_views)) [0, 1, 2, 3, 4] (by decide) rfl
      refine cl_rwi (wr := [(a_p1, .inr (7, [.ref a_p1_letters, .int v_p1_length])), (a_p1_letters, .inl (cI, (80, .inl d_p1_letters)))]) (wsN := (WX4_readFrom cI cJ cZ cB a_o a_o_prices a_o_seats a_o_joined a_o_views a_p1 a_p1_letters q7.2.1 q7.2.2.1 q7.2.2.2.1 q7.2.2.2.2.1 q7.2.2.2.2.2.1 q7.2.2.2.2.2.2 v_p1_length d_p1_letters)) (va_runV (As := [.int q5]) (rest := []) ⟨hx, hb, hml, hown, hts⟩ ((kX4_takes l D cI cJ cZ cB a_o a_o_prices a_o_seats a_o_joined a_o_views v_o_rows v_o_awaited d_o_prices d_o_seats d_o_joined d_o_views q5 q7 hq8) _) (cwV 1 hts gX4_readFrom_X4_takes rfl rfl rfl (by decide +kernel) ⟨Nat.le_of_ble_eq_true rfl, Nat.le_of_ble_eq_true rfl⟩) ⟨PRw.blind, va_recv hK.1 hPc (ci := 4) (q0 := 0) rfl rfl, PRw.at hK hPc hDc⟩ rfl rfl hl.1 rfl (lv_room (Nat.le_of_ble_eq_true rfl)) dX4_readFrom_26 ⟨Nat.zero_le _, Nat.zero_le _⟩) hP hD hS hA [0, 1, 2, 3, 4] [5, 6] [2, 3, 4, 5, 6, 0, 1] rfl rfl (by decide) (by decide) rfl (by decide) (fun H locs hP hD hS => ?_)
      refine lv_if_ne (tgt := 34) hx hb dX4_readFrom_29 (by decide) (fun hc => ?_) (fun hc => ?_)
      · have hf := pf_f hc hf
        refine lv_iinc (v := (x2 + (1 : Int32))) (lv' := [(2, .int (x2 + (1 : Int32))), (0, .ref a_o), (1, .ref a_p1)]) hx hb dX4_readFrom_34 hl (k := 2) rfl rfl (by decide) rfl (fun ls hl => ?_)
        refine lv_goto (tgt := 12) hx hb dX4_readFrom_37 (by decide) ?_
        exact ih q7.2.1 q7.2.2.1 q7.2.2.2.1 q7.2.2.2.2.1 q7.2.2.2.2.2.1 q7.2.2.2.2.2.2 v_p1_length d_p1_letters (x2 + (1 : Int32)) _ _ ls _ hP hD hS (lv_sub hl [1, 2, 0] rfl) hf
      · have hf := pf_t hc hf
        refine lv_iload_n hx hb dX4_readFrom_32 rfl (lv_at hl 2 rfl) ?_
        cases hf
        exact W.iret hx hb hr (fun t ht hW => ⟨⟨rfl, by rw [ht]; exact hP, hD⟩, hS.F ht⟩) hS.2.2 dX4_readFrom_33
def fX4_readFrom (v_o_rows : Int32) (v_o_awaited : Int32) (d_o_prices : (Nat → Int32)) (d_o_seats : (Nat → Int32)) (d_o_joined : (Nat → Int32)) (d_o_views : (Nat → Int32)) (v_p1_length : Int32) (d_p1_letters : (Nat → Int32)) : Option (Int32 × Int32 × Int32 × (Nat → Int32) × (Nat → Int32) × (Nat → Int32) × (Nat → Int32)) := fX4_readFrom_12 FU (0 : Int32) (0 : Int32) d_o_prices d_o_seats d_o_joined d_o_views v_p1_length d_p1_letters (0 : Int32)
set_option maxRecDepth 100000 in
set_option maxHeartbeats 4000000 in
theorem kX4_readFrom (l : Launch) (D : va_G) (cI cJ cZ cB : ClassId) (a_o : Nat) (a_o_prices : Nat) (a_o_seats : Nat) (a_o_joined : Nat) (a_o_views : Nat) (a_p1 : Nat) (a_p1_letters : Nat) (v_o_rows : Int32) (v_o_awaited : Int32) (d_o_prices : (Nat → Int32)) (d_o_seats : (Nat → Int32)) (d_o_joined : (Nat → Int32)) (d_o_views : (Nat → Int32)) (v_p1_length : Int32) (d_p1_letters : (Nat → Int32)) (res : Int32 × Int32 × Int32 × (Nat → Int32) × (Nat → Int32) × (Nat → Int32) × (Nat → Int32)) (hf : fX4_readFrom v_o_rows v_o_awaited d_o_prices d_o_seats d_o_joined d_o_views v_p1_length d_p1_letters = some res) : Rw l yX4_readFrom wsX4_readFrom ({ frames := 4, cells := 0, slots := 0, locals := 83 } : Room) D (tyL cI cJ cZ cB) [.ref a_o, .ref a_p1] (WX4_readFrom cI cJ cZ cB a_o a_o_prices a_o_seats a_o_joined a_o_views a_p1 a_p1_letters v_o_rows v_o_awaited d_o_prices d_o_seats d_o_joined d_o_views v_p1_length d_p1_letters) (some (.int res.1)) (WX4_readFrom cI cJ cZ cB a_o a_o_prices a_o_seats a_o_joined a_o_views a_p1 a_p1_letters res.2.1 res.2.2.1 res.2.2.2.1 res.2.2.2.2.1 res.2.2.2.2.2.1 res.2.2.2.2.2.2 v_p1_length d_p1_letters) := by
  refine Rw.of (cc := cX4_readFrom) (maxL := 3) (ret := (some .int)) (own := RX4) (by decide) rfl rfl (Nat.le_of_ble_eq_true rfl) ?_
  intro p e s m below meth c A ls C hK hA hP hD hS hl
  obtain ⟨hx, hb, hr, hml, hts, hown, hlk⟩ := id C
  have hl : lv_has ls 3 [(0, .ref a_o), (1, .ref a_p1)] := hl
  unfold fX4_readFrom at hf
  refine lv_aload_n hx hb dX4_readFrom_0 rfl (lv_at hl 0 rfl) ?_
  refine lv_iconst (v := (0 : Int32)) hx hb dX4_readFrom_1 (by decide) ?_
  refine va_put (D := D) (ci := 4) (v := .int (0 : Int32)) (ty := .int) (C := RX4) (T := TX4) (N := 6) hx hb hts iX4_readFrom_X4 tyX4 tyX4_ok nmX4 hown hK.1 hP hD hS 0 rfl rfl 4 (by decide) (hts (.fieldLink RX4 24 "LoneSeats$Plan" "rows" "I") (by decide +kernel)) (fun _ h9 => h9) rfl (by decide +kernel) rfl rfl (Nat.le_of_ble_eq_true rfl) dX4_readFrom_2 (fun H locs hP hD hS => ?_)
  have hP : va_P D vwCl (WX4_readFrom cI cJ cZ cB a_o a_o_prices a_o_seats a_o_joined a_o_views a_p1 a_p1_letters (0 : Int32) v_o_awaited d_o_prices d_o_seats d_o_joined d_o_views v_p1_length d_p1_letters) H := hP
  have hD : va_D A (WX4_readFrom cI cJ cZ cB a_o a_o_prices a_o_seats a_o_joined a_o_views a_p1 a_p1_letters (0 : Int32) v_o_awaited d_o_prices d_o_seats d_o_joined d_o_views v_p1_length d_p1_letters) := hD
  refine lv_aload_n hx hb dX4_readFrom_5 rfl (lv_at hl 0 rfl) ?_
  refine lv_iconst (v := (0 : Int32)) hx hb dX4_readFrom_6 (by decide) ?_
  refine va_put (D := D) (ci := 4) (v := .int (0 : Int32)) (ty := .int) (C := RX4) (T := TX4) (N := 6) hx hb hts iX4_readFrom_X4 tyX4 tyX4_ok nmX4 hown hK.1 hP hD hS 0 rfl rfl 5 (by decide) (hts (.fieldLink RX4 28 "LoneSeats$Plan" "awaited" "I") (by decide +kernel)) (fun _ h9 => h9) rfl (by decide +kernel) rfl rfl (Nat.le_of_ble_eq_true rfl) dX4_readFrom_7 (fun H locs hP hD hS => ?_)
  have hP : va_P D vwCl (WX4_readFrom cI cJ cZ cB a_o a_o_prices a_o_seats a_o_joined a_o_views a_p1 a_p1_letters (0 : Int32) (0 : Int32) d_o_prices d_o_seats d_o_joined d_o_views v_p1_length d_p1_letters) H := hP
  have hD : va_D A (WX4_readFrom cI cJ cZ cB a_o a_o_prices a_o_seats a_o_joined a_o_views a_p1 a_p1_letters (0 : Int32) (0 : Int32) d_o_prices d_o_seats d_o_joined d_o_views v_p1_length d_p1_letters) := hD
  refine lv_iconst (v := (0 : Int32)) hx hb dX4_readFrom_10 (by decide) ?_
  refine lv_istore_n (lv' := [(2, .int (0 : Int32)), (0, .ref a_o), (1, .ref a_p1)]) hx hb dX4_readFrom_11 rfl hl (by decide) rfl (fun ls hl => ?_)
  exact tX4_readFrom_12 C hK hA  FU (0 : Int32) (0 : Int32) d_o_prices d_o_seats d_o_joined d_o_views v_p1_length d_p1_letters (0 : Int32) _ _ ls _ hP hD hS (lv_sub hl [1, 2, 0] rfl) hf
abbrev WX4_hasSeat (cI cJ cZ cB : ClassId) (a_o : Nat) (a_o_prices : Nat) (a_o_seats : Nat) (a_o_joined : Nat) (a_o_views : Nat) (v_o_rows : Int32) (v_o_awaited : Int32) (d_o_seats : (Nat → Int32)) : va_W := [(a_o, .inr (4, [.ref a_o_prices, .ref a_o_seats, .ref a_o_joined, .ref a_o_views, .int v_o_rows, .int v_o_awaited])), (a_o_seats, .inl (cI, (4, .inl d_o_seats)))]
set_option maxRecDepth 20000 in
theorem iX4_hasSeat_X4 : ∀ w ∈ wsX40, w ∈ wsX4_hasSeat := by decide +kernel
def fX4_hasSeat (v_o_rows : Int32) (d_o_seats : (Nat → Int32)) (x1 : Int32) (x2 : Int32) : Option (Int32) := ((fX4_hasRow v_o_rows x1).bind fun q1 => (if q1 = 0 then some (0 : Int32) else (if x2 < 0 then some (0 : Int32) else (if x1 < 0 ∨ 4 ≤ (x1).toNatClampNeg then none else (if (d_o_seats (x1).toNatClampNeg) ≤ x2 then some (0 : Int32) else some (1 : Int32))))))
set_option maxRecDepth 100000 in
set_option maxHeartbeats 4000000 in
theorem kX4_hasSeat (l : Launch) (D : va_G) (cI cJ cZ cB : ClassId) (a_o : Nat) (a_o_prices : Nat) (a_o_seats : Nat) (a_o_joined : Nat) (a_o_views : Nat) (v_o_rows : Int32) (v_o_awaited : Int32) (d_o_seats : (Nat → Int32)) (x1 : Int32) (x2 : Int32) (res : Int32) (hf : fX4_hasSeat v_o_rows d_o_seats x1 x2 = some res) : Ro l yX4_hasSeat wsX4_hasSeat ({ frames := 1, cells := 0, slots := 0, locals := 21 } : Room) D (tyL cI cJ cZ cB) [.ref a_o, .int x1, .int x2] (WX4_hasSeat cI cJ cZ cB a_o a_o_prices a_o_seats a_o_joined a_o_views v_o_rows v_o_awaited d_o_seats) (some (.int res)) := by
  refine Ro.of (cc := cX4_hasSeat) (maxL := 3) (ret := (some .boolean)) (own := RX4) (by decide) rfl rfl (Nat.le_of_ble_eq_true rfl) ?_
  intro p e s m below meth c ls C hK hP hl
  obtain ⟨hx, hb, hr, hml, hts, hown, hlk⟩ := id C
  have hl : lv_has ls 3 [(0, .ref a_o), (1, .int x1), (2, .int x2)] := hl
  unfold fX4_hasSeat at hf
  refine lv_aload_n hx hb dX4_hasSeat_0 rfl (lv_at hl 0 rfl) ?_
  refine lv_iload_n hx hb dX4_hasSeat_1 rfl (lv_at hl 1 rfl) ?_
  obtain ⟨q1, hq2, hf⟩ := pf_b hf
  have hPc := hP.sub (ws' := (WX4_hasRow cI cJ cZ cB a_o a_o_prices a_o_seats a_o_joined a_o_views v_o_rows v_o_awaited)) [0] rfl
  refine cl_roi (va_runV (As := [.int x1]) (rest := []) ⟨hx, hb, hml, hown, hts⟩ (kX4_hasRow l D cI cJ cZ cB a_o a_o_prices a_o_seats a_o_joined a_o_views v_o_rows v_o_awaited x1 q1 hq2) (cwV 1 hts gX4_hasSeat_X4_hasRow rfl rfl rfl (by decide +kernel) ⟨Nat.le_of_ble_eq_true rfl, Nat.le_of_ble_eq_true rfl⟩) ⟨PRo.blind, va_recv hK.1 hPc (ci := 4) (q0 := 0) rfl rfl, PRo.at hK hPc⟩ rfl rfl hl.1 rfl (lv_room (Nat.le_of_ble_eq_true rfl)) dX4_hasSeat_2 ⟨Nat.zero_le _, Nat.zero_le _⟩) ?_
  refine lv_if_eq (tgt := 26) hx hb dX4_hasSeat_5 (by decide) (fun hc => ?_) (fun hc => ?_)
  · have hf := pf_t hc hf
    refine lv_iconst (v := (0 : Int32)) hx hb dX4_hasSeat_26 (by decide) ?_
    cases hf
    exact W.zret hx hb hr (nar_b (by decide)) (fun t ht hW => ⟨rfl, ht⟩) (fun _ h => absurd h List.not_mem_nil) dX4_hasSeat_27
  · have hf := pf_f hc hf
    refine lv_iload_n hx hb dX4_hasSeat_8 rfl (lv_at hl 2 rfl) ?_
    refine lv_if_lt (tgt := 26) hx hb dX4_hasSeat_9 (by decide) (fun hc => ?_) (fun hc => ?_)
    · have hf := pf_t hc hf
      refine lv_iconst (v := (0 : Int32)) hx hb dX4_hasSeat_26 (by decide) ?_
      cases hf
      exact W.zret hx hb hr (nar_b (by decide)) (fun t ht hW => ⟨rfl, ht⟩) (fun _ h => absurd h List.not_mem_nil) dX4_hasSeat_27
    · have hf := pf_f hc hf
      refine lv_iload_n hx hb dX4_hasSeat_12 rfl (lv_at hl 2 rfl) ?_
      refine lv_aload_n hx hb dX4_hasSeat_13 rfl (lv_at hl 0 rfl) ?_
      refine va_get (D := D) (ci := 4) (v := .ref a_o_seats) (C := RX4) (T := TX4) (N := 6) hx hb hts iX4_hasSeat_X4 hown hK.1 hP 0 rfl rfl 1 (by decide) (hts (.fieldLink RX4 15 "LoneSeats$Plan" "seats" "[I") (by decide +kernel)) (fun _ h9 => h9) rfl dX4_hasSeat_14 ?_
      refine lv_iload_n hx hb dX4_hasSeat_17 rfl (lv_at hl 1 rfl) ?_
      obtain ⟨hg3, hf⟩ := pf_x hf
      refine va_iald hx hb hK.1 hP 1 0 rfl rfl hg3 dX4_hasSeat_18 ?_
      refine lv_icmp_ge (tgt := 26) hx hb dX4_hasSeat_19 (by decide) (fun hc => ?_) (fun hc => ?_)
      · have hf := pf_t hc hf
        refine lv_iconst (v := (0 : Int32)) hx hb dX4_hasSeat_26 (by decide) ?_
        cases hf
        exact W.zret hx hb hr (nar_b (by decide)) (fun t ht hW => ⟨rfl, ht⟩) (fun _ h => absurd h List.not_mem_nil) dX4_hasSeat_27
      · have hf := pf_f hc hf
        refine lv_iconst (v := (1 : Int32)) hx hb dX4_hasSeat_22 (by decide) ?_
        refine lv_goto (tgt := 27) hx hb dX4_hasSeat_23 (by decide) ?_
        cases hf
        exact W.zret hx hb hr (nar_b (by decide)) (fun t ht hW => ⟨rfl, ht⟩) (fun _ h => absurd h List.not_mem_nil) dX4_hasSeat_27
abbrev WX4_blocksIn (cI cJ cZ cB : ClassId) (a_o : Nat) (a_o_prices : Nat) (a_o_seats : Nat) (a_o_joined : Nat) (a_o_views : Nat) (v_o_rows : Int32) (v_o_awaited : Int32) (d_o_seats : (Nat → Int32)) (d_o_joined : (Nat → Int32)) : va_W := [(a_o, .inr (4, [.ref a_o_prices, .ref a_o_seats, .ref a_o_joined, .ref a_o_views, .int v_o_rows, .int v_o_awaited])), (a_o_seats, .inl (cI, (4, .inl d_o_seats))), (a_o_joined, .inl (cI, (4, .inl d_o_joined)))]
set_option maxRecDepth 20000 in
theorem iX4_blocksIn_X4 : ∀ w ∈ wsX40, w ∈ wsX4_blocksIn := by decide +kernel
def fX4_blocksIn (v_o_rows : Int32) (d_o_seats : (Nat → Int32)) (d_o_joined : (Nat → Int32)) (x1 : Int32) : Option (Int32) := ((fX4_hasRow v_o_rows x1).bind fun q1 => (if q1 = 0 then some (0 : Int32) else (if x1 < 0 ∨ 4 ≤ (x1).toNatClampNeg then none else (if x1 < 0 ∨ 4 ≤ (x1).toNatClampNeg then none else ((fJ6_bitCount_0f7a4 (d_o_joined (x1).toNatClampNeg)).bind fun q5 => some ((d_o_seats (x1).toNatClampNeg) - q5))))))
set_option maxRecDepth 100000 in
set_option maxHeartbeats 4000000 in
theorem kX4_blocksIn (l : Launch) (D : va_G) (cI cJ cZ cB : ClassId) (a_o : Nat) (a_o_prices : Nat) (a_o_seats : Nat) (a_o_joined : Nat) (a_o_views : Nat) (v_o_rows : Int32) (v_o_awaited : Int32) (d_o_seats : (Nat → Int32)) (d_o_joined : (Nat → Int32)) (x1 : Int32) (res : Int32) (hf : fX4_blocksIn v_o_rows d_o_seats d_o_joined x1 = some res) : Ro l yX4_blocksIn wsX4_blocksIn ({ frames := 1, cells := 0, slots := 0, locals := 21 } : Room) D (tyL cI cJ cZ cB) [.ref a_o, .int x1] (WX4_blocksIn cI cJ cZ cB a_o a_o_prices a_o_seats a_o_joined a_o_views v_o_rows v_o_awaited d_o_seats d_o_joined) (some (.int res)) := by
  refine Ro.of (cc := cX4_blocksIn) (maxL := 2) (ret := (some .int)) (own := RX4) (by decide) rfl rfl (Nat.le_of_ble_eq_true rfl) ?_
  intro p e s m below meth c ls C hK hP hl
  obtain ⟨hx, hb, hr, hml, hts, hown, hlk⟩ := id C
  have hl : lv_has ls 2 [(0, .ref a_o), (1, .int x1)] := hl
  unfold fX4_blocksIn at hf
  refine lv_aload_n hx hb dX4_blocksIn_0 rfl (lv_at hl 0 rfl) ?_
  refine lv_iload_n hx hb dX4_blocksIn_1 rfl (lv_at hl 1 rfl) ?_
  obtain ⟨q1, hq2, hf⟩ := pf_b hf
  have hPc := hP.sub (ws' := (WX4_hasRow cI cJ cZ cB a_o a_o_prices a_o_seats a_o_joined a_o_views v_o_rows v_o_awaited)) [0] rfl
  refine cl_roi (va_runV (As := [.int x1]) (rest := []) ⟨hx, hb, hml, hown, hts⟩ (kX4_hasRow l D cI cJ cZ cB a_o a_o_prices a_o_seats a_o_joined a_o_views v_o_rows v_o_awaited x1 q1 hq2) (cwV 1 hts gX4_blocksIn_X4_hasRow rfl rfl rfl (by decide +kernel) ⟨Nat.le_of_ble_eq_true rfl, Nat.le_of_ble_eq_true rfl⟩) ⟨PRo.blind, va_recv hK.1 hPc (ci := 4) (q0 := 0) rfl rfl, PRo.at hK hPc⟩ rfl rfl hl.1 rfl (lv_room (Nat.le_of_ble_eq_true rfl)) dX4_blocksIn_2 ⟨Nat.zero_le _, Nat.zero_le _⟩) ?_
  refine lv_if_eq (tgt := 27) hx hb dX4_blocksIn_5 (by decide) (fun hc => ?_) (fun hc => ?_)
  · have hf := pf_t hc hf
    refine lv_iconst (v := (0 : Int32)) hx hb dX4_blocksIn_27 (by decide) ?_
    cases hf
    exact W.iret hx hb hr (fun t ht hW => ⟨rfl, ht⟩) (fun _ h => absurd h List.not_mem_nil) dX4_blocksIn_28
  · have hf := pf_f hc hf
    refine lv_aload_n hx hb dX4_blocksIn_8 rfl (lv_at hl 0 rfl) ?_
    refine va_get (D := D) (ci := 4) (v := .ref a_o_seats) (C := RX4) (T := TX4) (N := 6) hx hb hts iX4_blocksIn_X4 hown hK.1 hP 0 rfl rfl 1 (by decide) (hts (.fieldLink RX4 15 "LoneSeats$Plan" "seats" "[I") (by decide +kernel)) (fun _ h9 => h9) rfl dX4_blocksIn_9 ?_
    refine lv_iload_n hx hb dX4_blocksIn_12 rfl (lv_at hl 1 rfl) ?_
    obtain ⟨hg3, hf⟩ := pf_x hf
    refine va_iald hx hb hK.1 hP 1 0 rfl rfl hg3 dX4_blocksIn_13 ?_
    refine lv_aload_n hx hb dX4_blocksIn_14 rfl (lv_at hl 0 rfl) ?_
    refine va_get (D := D) (ci := 4) (v := .ref a_o_joined) (C := RX4) (T := TX4) (N := 6) hx hb hts iX4_blocksIn_X4 hown hK.1 hP 0 rfl rfl 2 (by decide) (hts (.fieldLink RX4 18 "LoneSeats$Plan" "joined" "[I") (by decide +kernel)) (fun _ h9 => h9) rfl dX4_blocksIn_15 ?_
    refine lv_iload_n hx hb dX4_blocksIn_18 rfl (lv_at hl 1 rfl) ?_
    obtain ⟨hg4, hf⟩ := pf_x hf
    refine va_iald hx hb hK.1 hP 2 0 rfl rfl hg4 dX4_blocksIn_19 ?_
    obtain ⟨q5, hq6, hf⟩ := pf_b hf
    have hPc := hP.sub (ws' := ([] : va_W)) [] rfl
    refine cl_roi (va_runS (As := [.int (d_o_joined (x1).toNatClampNeg)]) (rest := [.int (d_o_seats (x1).toNatClampNeg)]) ⟨hx, hb, hml, hown, hts⟩ (kJ6_bitCount_0f7a4 l D cI cJ cZ cB (d_o_joined (x1).toNatClampNeg) q5 hq6) (va_cwS 1 hts gX4_blocksIn_J6_bitCount_0f7a4 rfl rfl rfl (by decide +kernel) ⟨Nat.le_of_ble_eq_true rfl, Nat.le_of_ble_eq_true rfl⟩) ⟨PRo.blind, PRo.at hK hPc⟩ rfl rfl hl.1 rfl (lv_room (Nat.le_of_ble_eq_true rfl)) dX4_blocksIn_20 ⟨Nat.zero_le _, Nat.zero_le _⟩) ?_
    refine lv_isub hx hb dX4_blocksIn_23 ?_
    refine lv_goto (tgt := 28) hx hb dX4_blocksIn_24 (by decide) ?_
    cases hf
    exact W.iret hx hb hr (fun t ht hW => ⟨rfl, ht⟩) (fun _ h => absurd h List.not_mem_nil) dX4_blocksIn_28
abbrev WX4_viewOf (cI cJ cZ cB : ClassId) (a_o : Nat) (a_o_prices : Nat) (a_o_seats : Nat) (a_o_joined : Nat) (a_o_views : Nat) (v_o_rows : Int32) (v_o_awaited : Int32) (d_o_seats : (Nat → Int32)) (d_o_views : (Nat → Int32)) : va_W := [(a_o, .inr (4, [.ref a_o_prices, .ref a_o_seats, .ref a_o_joined, .ref a_o_views, .int v_o_rows, .int v_o_awaited])), (a_o_seats, .inl (cI, (4, .inl d_o_seats))), (a_o_views, .inl (cI, (36, .inl d_o_views)))]
set_option maxRecDepth 20000 in
theorem iX4_viewOf_X4 : ∀ w ∈ wsX40, w ∈ wsX4_viewOf := by decide +kernel
def fX4_viewOf (v_o_rows : Int32) (d_o_seats : (Nat → Int32)) (d_o_views : (Nat → Int32)) (x1 : Int32) (x2 : Int32) : Option (Int32) := ((fX4_hasSeat v_o_rows d_o_seats x1 x2).bind fun q1 => (if q1 = 0 then some (0 : Int32) else (if ((x1 * (9 : Int32)) + x2) < 0 ∨ 36 ≤ (((x1 * (9 : Int32)) + x2)).toNatClampNeg then none else some (d_o_views (((x1 * (9 : Int32)) + x2)).toNatClampNeg))))
set_option maxRecDepth 100000 in
set_option maxHeartbeats 4000000 in
theorem kX4_viewOf (l : Launch) (D : va_G) (cI cJ cZ cB : ClassId) (a_o : Nat) (a_o_prices : Nat) (a_o_seats : Nat) (a_o_joined : Nat) (a_o_views : Nat) (v_o_rows : Int32) (v_o_awaited : Int32) (d_o_seats : (Nat → Int32)) (d_o_views : (Nat → Int32)) (x1 : Int32) (x2 : Int32) (res : Int32) (hf : fX4_viewOf v_o_rows d_o_seats d_o_views x1 x2 = some res) : Ro l yX4_viewOf wsX4_viewOf ({ frames := 2, cells := 0, slots := 0, locals := 43 } : Room) D (tyL cI cJ cZ cB) [.ref a_o, .int x1, .int x2] (WX4_viewOf cI cJ cZ cB a_o a_o_prices a_o_seats a_o_joined a_o_views v_o_rows v_o_awaited d_o_seats d_o_views) (some (.int res)) := by
  refine Ro.of (cc := cX4_viewOf) (maxL := 3) (ret := (some .int)) (own := RX4) (by decide) rfl rfl (Nat.le_of_ble_eq_true rfl) ?_
  intro p e s m below meth c ls C hK hP hl
  obtain ⟨hx, hb, hr, hml, hts, hown, hlk⟩ := id C
  have hl : lv_has ls 3 [(0, .ref a_o), (1, .int x1), (2, .int x2)] := hl
  unfold fX4_viewOf at hf
  refine lv_aload_n hx hb dX4_viewOf_0 rfl (lv_at hl 0 rfl) ?_
  refine lv_iload_n hx hb dX4_viewOf_1 rfl (lv_at hl 1 rfl) ?_
  refine lv_iload_n hx hb dX4_viewOf_2 rfl (lv_at hl 2 rfl) ?_
  obtain ⟨q1, hq2, hf⟩ := pf_b hf
  have hPc := hP.sub (ws' := (WX4_hasSeat cI cJ cZ cB a_o a_o_prices a_o_seats a_o_joined a_o_views v_o_rows v_o_awaited d_o_seats)) [0, 1] rfl
  refine cl_roi (va_runV (As := [.int x1, .int x2]) (rest := []) ⟨hx, hb, hml, hown, hts⟩ (kX4_hasSeat l D cI cJ cZ cB a_o a_o_prices a_o_seats a_o_joined a_o_views v_o_rows v_o_awaited d_o_seats x1 x2 q1 hq2) (cwV 2 hts gX4_viewOf_X4_hasSeat rfl rfl rfl (by decide +kernel) ⟨Nat.le_of_ble_eq_true rfl, Nat.le_of_ble_eq_true rfl⟩) ⟨PRo.blind, va_recv hK.1 hPc (ci := 4) (q0 := 0) rfl rfl, PRo.at hK hPc⟩ rfl rfl hl.1 rfl (lv_room (Nat.le_of_ble_eq_true rfl)) dX4_viewOf_3 ⟨Nat.zero_le _, Nat.zero_le _⟩) ?_
  refine lv_if_eq (tgt := 23) hx hb dX4_viewOf_6 (by decide) (fun hc => ?_) (fun hc => ?_)
  · have hf := pf_t hc hf
    refine lv_iconst (v := (0 : Int32)) hx hb dX4_viewOf_23 (by decide) ?_
    cases hf
    exact W.iret hx hb hr (fun t ht hW => ⟨rfl, ht⟩) (fun _ h => absurd h List.not_mem_nil) dX4_viewOf_24
  · have hf := pf_f hc hf
    refine lv_aload_n hx hb dX4_viewOf_9 rfl (lv_at hl 0 rfl) ?_
    refine va_get (D := D) (ci := 4) (v := .ref a_o_views) (C := RX4) (T := TX4) (N := 6) hx hb hts iX4_viewOf_X4 hown hK.1 hP 0 rfl rfl 3 (by decide) (hts (.fieldLink RX4 21 "LoneSeats$Plan" "views" "[I") (by decide +kernel)) (fun _ h9 => h9) rfl dX4_viewOf_10 ?_
    refine lv_iload_n hx hb dX4_viewOf_13 rfl (lv_at hl 1 rfl) ?_
    refine lv_bipush (v := (9 : Int32)) hx hb dX4_viewOf_14 (by decide) ?_
    refine lv_imul hx hb dX4_viewOf_16 ?_
    refine lv_iload_n hx hb dX4_viewOf_17 rfl (lv_at hl 2 rfl) ?_
    refine lv_iadd hx hb dX4_viewOf_18 ?_
    obtain ⟨hg3, hf⟩ := pf_x hf
    refine va_iald hx hb hK.1 hP 2 0 rfl rfl hg3 dX4_viewOf_19 ?_
    refine lv_goto (tgt := 24) hx hb dX4_viewOf_20 (by decide) ?_
    cases hf
    exact W.iret hx hb hr (fun t ht hW => ⟨rfl, ht⟩) (fun _ h => absurd h List.not_mem_nil) dX4_viewOf_24
abbrev WX4_hasAisleAfter (cI cJ cZ cB : ClassId) (a_o : Nat) (a_o_prices : Nat) (a_o_seats : Nat) (a_o_joined : Nat) (a_o_views : Nat) (v_o_rows : Int32) (v_o_awaited : Int32) (d_o_seats : (Nat → Int32)) (d_o_joined : (Nat → Int32)) : va_W := [(a_o, .inr (4, [.ref a_o_prices, .ref a_o_seats, .ref a_o_joined, .ref a_o_views, .int v_o_rows, .int v_o_awaited])), (a_o_seats, .inl (cI, (4, .inl d_o_seats))), (a_o_joined, .inl (cI, (4, .inl d_o_joined)))]
set_option maxRecDepth 20000 in
theorem iX4_hasAisleAfter_X4 : ∀ w ∈ wsX40, w ∈ wsX4_hasAisleAfter := by decide +kernel
def fX4_hasAisleAfter (v_o_rows : Int32) (d_o_seats : (Nat → Int32)) (d_o_joined : (Nat → Int32)) (x1 : Int32) (x2 : Int32) : Option (Int32) := ((fX4_hasSeat v_o_rows d_o_seats x1 (x2 + (1 : Int32))).bind fun q1 => (if q1 = 0 then some (0 : Int32) else (if x1 < 0 ∨ 4 ≤ (x1).toNatClampNeg then none else (if ((d_o_joined (x1).toNatClampNeg) &&& ((1 : Int32) <<< (x2 &&& 31))) = 0 then some (1 : Int32) else some (0 : Int32)))))
set_option maxRecDepth 100000 in
set_option maxHeartbeats 4000000 in
theorem kX4_hasAisleAfter (l : Launch) (D : va_G) (cI cJ cZ cB : ClassId) (a_o : Nat) (a_o_prices : Nat) (a_o_seats : Nat) (a_o_joined : Nat) (a_o_views : Nat) (v_o_rows : Int32) (v_o_awaited : Int32) (d_o_seats : (Nat → Int32)) (d_o_joined : (Nat → Int32)) (x1 : Int32) (x2 : Int32) (res : Int32) (hf : fX4_hasAisleAfter v_o_rows d_o_seats d_o_joined x1 x2 = some res) : Ro l yX4_hasAisleAfter wsX4_hasAisleAfter ({ frames := 2, cells := 0, slots := 0, locals := 43 } : Room) D (tyL cI cJ cZ cB) [.ref a_o, .int x1, .int x2] (WX4_hasAisleAfter cI cJ cZ cB a_o a_o_prices a_o_seats a_o_joined a_o_views v_o_rows v_o_awaited d_o_seats d_o_joined) (some (.int res)) := by
  refine Ro.of (cc := cX4_hasAisleAfter) (maxL := 3) (ret := (some .boolean)) (own := RX4) (by decide) rfl rfl (Nat.le_of_ble_eq_true rfl) ?_
  intro p e s m below meth c ls C hK hP hl
  obtain ⟨hx, hb, hr, hml, hts, hown, hlk⟩ := id C
  have hl : lv_has ls 3 [(0, .ref a_o), (1, .int x1), (2, .int x2)] := hl
  unfold fX4_hasAisleAfter at hf
  refine lv_aload_n hx hb dX4_hasAisleAfter_0 rfl (lv_at hl 0 rfl) ?_
  refine lv_iload_n hx hb dX4_hasAisleAfter_1 rfl (lv_at hl 1 rfl) ?_
  refine lv_iload_n hx hb dX4_hasAisleAfter_2 rfl (lv_at hl 2 rfl) ?_
  refine lv_iconst (v := (1 : Int32)) hx hb dX4_hasAisleAfter_3 (by decide) ?_
  refine lv_iadd hx hb dX4_hasAisleAfter_4 ?_
  obtain ⟨q1, hq2, hf⟩ := pf_b hf
  have hPc := hP.sub (ws' := (WX4_hasSeat cI cJ cZ cB a_o a_o_prices a_o_seats a_o_joined a_o_views v_o_rows v_o_awaited d_o_seats)) [0, 1] rfl
  refine cl_roi (va_runV (As := [.int x1, .int (x2 + (1 : Int32))]) (rest := []) ⟨hx, hb, hml, hown, hts⟩ (kX4_hasSeat l D cI cJ cZ cB a_o a_o_prices a_o_seats a_o_joined a_o_views v_o_rows v_o_awaited d_o_seats x1 (x2 + (1 : Int32)) q1 hq2) (cwV 2 hts gX4_hasAisleAfter_X4_hasSeat rfl rfl rfl (by decide +kernel) ⟨Nat.le_of_ble_eq_true rfl, Nat.le_of_ble_eq_true rfl⟩) ⟨PRo.blind, va_recv hK.1 hPc (ci := 4) (q0 := 0) rfl rfl, PRo.at hK hPc⟩ rfl rfl hl.1 rfl (lv_room (Nat.le_of_ble_eq_true rfl)) dX4_hasAisleAfter_5 ⟨Nat.zero_le _, Nat.zero_le _⟩) ?_
  refine lv_if_eq (tgt := 28) hx hb dX4_hasAisleAfter_8 (by decide) (fun hc => ?_) (fun hc => ?_)
  · have hf := pf_t hc hf
    refine lv_iconst (v := (0 : Int32)) hx hb dX4_hasAisleAfter_28 (by decide) ?_
    cases hf
    exact W.zret hx hb hr (nar_b (by decide)) (fun t ht hW => ⟨rfl, ht⟩) (fun _ h => absurd h List.not_mem_nil) dX4_hasAisleAfter_29
  · have hf := pf_f hc hf
    refine lv_aload_n hx hb dX4_hasAisleAfter_11 rfl (lv_at hl 0 rfl) ?_
    refine va_get (D := D) (ci := 4) (v := .ref a_o_joined) (C := RX4) (T := TX4) (N := 6) hx hb hts iX4_hasAisleAfter_X4 hown hK.1 hP 0 rfl rfl 2 (by decide) (hts (.fieldLink RX4 18 "LoneSeats$Plan" "joined" "[I") (by decide +kernel)) (fun _ h9 => h9) rfl dX4_hasAisleAfter_12 ?_
    refine lv_iload_n hx hb dX4_hasAisleAfter_15 rfl (lv_at hl 1 rfl) ?_
    obtain ⟨hg3, hf⟩ := pf_x hf
    refine va_iald hx hb hK.1 hP 2 0 rfl rfl hg3 dX4_hasAisleAfter_16 ?_
    refine lv_iconst (v := (1 : Int32)) hx hb dX4_hasAisleAfter_17 (by decide) ?_
    refine lv_iload_n hx hb dX4_hasAisleAfter_18 rfl (lv_at hl 2 rfl) ?_
    refine lv_ishl hx hb dX4_hasAisleAfter_19 ?_
    refine lv_iand hx hb dX4_hasAisleAfter_20 ?_
    refine lv_if_ne (tgt := 28) hx hb dX4_hasAisleAfter_21 (by decide) (fun hc => ?_) (fun hc => ?_)
    · have hf := pf_f hc hf
      refine lv_iconst (v := (0 : Int32)) hx hb dX4_hasAisleAfter_28 (by decide) ?_
      cases hf
      exact W.zret hx hb hr (nar_b (by decide)) (fun t ht hW => ⟨rfl, ht⟩) (fun _ h => absurd h List.not_mem_nil) dX4_hasAisleAfter_29
    · have hf := pf_t hc hf
      refine lv_iconst (v := (1 : Int32)) hx hb dX4_hasAisleAfter_24 (by decide) ?_
      refine lv_goto (tgt := 29) hx hb dX4_hasAisleAfter_25 (by decide) ?_
      cases hf
      exact W.zret hx hb hr (nar_b (by decide)) (fun t ht hW => ⟨rfl, ht⟩) (fun _ h => absurd h List.not_mem_nil) dX4_hasAisleAfter_29
abbrev WX4_loneSeats (cI cJ cZ cB : ClassId) (a_o : Nat) (a_o_prices : Nat) (a_o_seats : Nat) (a_o_joined : Nat) (a_o_views : Nat) (a_p1 : Nat) (a_p1_prices : Nat) (a_p1_free : Nat) (a_p1_sizes : Nat) (a_p1_limits : Nat) (a_p1_places : Nat) (a_p1_paid : Nat) (a_p1_queue : Nat) (v_o_rows : Int32) (v_o_awaited : Int32) (d_o_joined : (Nat → Int32)) (v_p1_asked : Int32) (v_p1_waiting : Int32) (v_p1_fee : Int32) (v_p1_takings : Int32) (d_p1_free : (Nat → Int32)) : va_W := [(a_o, .inr (4, [.ref a_o_prices, .ref a_o_seats, .ref a_o_joined, .ref a_o_views, .int v_o_rows, .int v_o_awaited])), (a_o_joined, .inl (cI, (4, .inl d_o_joined))), (a_p1, .inr (0, [.ref a_p1_prices, .ref a_p1_free, .ref a_p1_sizes, .ref a_p1_limits, .ref a_p1_places, .ref a_p1_paid, .ref a_p1_queue, .int v_p1_asked, .int v_p1_waiting, .int v_p1_fee, .int v_p1_takings])), (a_p1_free, .inl (cI, (4, .inl d_p1_free)))]
set_option maxRecDepth 20000 in
theorem iX4_loneSeats_X4 : ∀ w ∈ wsX40, w ∈ wsX4_loneSeats := by decide +kernel
def fX4_loneSeats_4 : Nat → Int32 → (Nat → Int32) → (Nat → Int32) → Int32 → Int32 → Option (Int32)
  | 0, _, _, _, _, _ => none
  | n + 1, v_o_rows, d_o_joined, d_p1_free, x2, x3 => (if v_o_rows ≤ x3 then some x2 else ((fX0_freeIn d_p1_free x3).bind fun q1 => ((fX4_loneOf v_o_rows d_o_joined x3 q1).bind fun q3 => ((fJ6_bitCount_0f7a4 q3).bind fun q5 => fX4_loneSeats_4 n v_o_rows d_o_joined d_p1_free (x2 + q5) (x3 + (1 : Int32))))))
set_option maxRecDepth 100000 in
set_option maxHeartbeats 4000000 in
theorem tX4_loneSeats_4 {p : Program} {l : Launch} {e : Env} {s : State} {m : MethodId} {args : Array Value} {below : List Frame} {meth : Method} {c : Code} {D : va_G} {cI cJ cZ cB : ClassId} {a_o : Nat} {a_o_prices : Nat} {a_o_seats : Nat} {a_o_joined : Nat} {a_o_views : Nat} {a_p1 : Nat} {a_p1_prices : Nat} {a_p1_free : Nat} {a_p1_sizes : Nat} {a_p1_limits : Nat} {a_p1_places : Nat} {a_p1_paid : Nat} {a_p1_queue : Nat} (C : Cx p s m args meth c cX4_loneSeats 4 (some .int) wsX4_loneSeats RX4) (hK : Kw D (tyL cI cJ cZ cB) s) : ∀ (n : Nat), ∀ (v_o_rows : Int32) (v_o_awaited : Int32) (d_o_joined : (Nat → Int32)) (v_p1_asked : Int32) (v_p1_waiting : Int32) (v_p1_fee : Int32) (v_p1_takings : Int32) (d_p1_free : (Nat → Int32)) (x2 : Int32) (x3 : Int32) (ls : Array Slot) (res : Int32), va_P D vwCl (WX4_loneSeats cI cJ cZ cB a_o a_o_prices a_o_seats a_o_joined a_o_views a_p1 a_p1_prices a_p1_free a_p1_sizes a_p1_limits a_p1_places a_p1_paid a_p1_queue v_o_rows v_o_awaited d_o_joined v_p1_asked v_p1_waiting v_p1_fee v_p1_takings d_p1_free) s.heap → lv_has ls 4 [(0, .ref a_o), (1, .ref a_p1), (2, .int x2), (3, .int x3)] → fX4_loneSeats_4 n v_o_rows d_o_joined d_p1_free x2 x3 = some res → W p l e ({ frames := 2, cells := 0, slots := 0, locals := 45 } : Room) s m args below meth c s.heap [] 0 0 (MQ below (QRo (some (.int res))) args s 0 0 (fun _ => False)) (F0 m 4 ls []) := by
  obtain ⟨hx, hb, hr, hml, hts, hown, hlk⟩ := id C
  intro n
  induction n with
  | zero =>
    intro v_o_rows v_o_awaited d_o_joined v_p1_asked v_p1_waiting v_p1_fee v_p1_takings d_p1_free x2 x3 ls res hP hl hf
    rw [fX4_loneSeats_4] at hf
    cases hf
  | succ n ih =>
    intro v_o_rows v_o_awaited d_o_joined v_p1_asked v_p1_waiting v_p1_fee v_p1_takings d_p1_free x2 x3 ls res hP hl hf
    rw [fX4_loneSeats_4] at hf
    refine lv_iload_n hx hb dX4_loneSeats_4 rfl (lv_at hl 3 rfl) ?_
    refine lv_aload_n hx hb dX4_loneSeats_5 rfl (lv_at hl 0 rfl) ?_
    refine va_get (D := D) (ci := 4) (v := .int v_o_rows) (C := RX4) (T := TX4) (N := 6) hx hb hts iX4_loneSeats_X4 hown hK.1 hP 0 rfl rfl 4 (by decide) (hts (.fieldLink RX4 24 "LoneSeats$Plan" "rows" "I") (by decide +kernel)) (fun _ h9 => h9) rfl dX4_loneSeats_6 ?_
    refine lv_icmp_ge (tgt := 34) hx hb dX4_loneSeats_9 (by decide) (fun hc => ?_) (fun hc => ?_)
    · have hf := pf_t hc hf
      refine lv_iload_n hx hb dX4_loneSeats_34 rfl (lv_at hl 2 rfl) ?_
      cases hf
      exact W.iret hx hb hr (fun t ht hW => ⟨rfl, ht⟩) (fun _ h => absurd h List.not_mem_nil) dX4_loneSeats_35
    · have hf := pf_f hc hf
      refine lv_iload_n hx hb dX4_loneSeats_12 rfl (lv_at hl 2 rfl) ?_
      refine lv_aload_n hx hb dX4_loneSeats_13 rfl (lv_at hl 0 rfl) ?_
      refine lv_iload_n hx hb dX4_loneSeats_14 rfl (lv_at hl 3 rfl) ?_
      refine lv_aload_n hx hb dX4_loneSeats_15 rfl (lv_at hl 1 rfl) ?_
      refine lv_iload_n hx hb dX4_loneSeats_16 rfl (lv_at hl 3 rfl) ?_
      obtain ⟨q1, hq2, hf⟩ := pf_b hf
      have hPc := hP.sub (ws' := (WX0_freeIn cI cJ cZ cB a_p1 a_p1_prices a_p1_free a_p1_sizes a_p1_limits a_p1_places a_p1_paid a_p1_queue v_p1_asked v_p1_waiting v_p1_fee v_p1_takings d_p1_free)) [2, 3] rfl
      refine cl_roi (va_runV (As := [.int x3]) (rest := [.int x3, .ref a_o, .int x2]) ⟨hx, hb, hml, hown, hts⟩ (kX0_freeIn l D cI cJ cZ cB a_p1 a_p1_prices a_p1_free a_p1_sizes a_p1_limits a_p1_places a_p1_paid a_p1_queue v_p1_asked v_p1_waiting v_p1_fee v_p1_takings d_p1_free x3 q1 hq2) (cwV 1 hts gX4_loneSeats_X0_freeIn rfl rfl rfl (by decide +kernel) ⟨Nat.le_of_ble_eq_true rfl, Nat.le_of_ble_eq_true rfl⟩) ⟨PRo.blind, va_recv hK.1 hPc (ci := 0) (q0 := 0) rfl rfl, PRo.at hK hPc⟩ rfl rfl hl.1 rfl (lv_room (Nat.le_of_ble_eq_true rfl)) dX4_loneSeats_17 ⟨Nat.zero_le _, Nat.zero_le _⟩) ?_
      obtain ⟨q3, hq4, hf⟩ := pf_b hf
      have hPc := hP.sub (ws' := (WX4_loneOf cI cJ cZ cB a_o a_o_prices a_o_seats a_o_joined a_o_views v_o_rows v_o_awaited d_o_joined)) [0, 1] rfl
      refine cl_roi (va_runV (As := [.int x3, .int q1]) (rest := [.int x2]) ⟨hx, hb, hml, hown, hts⟩ (kX4_loneOf l D cI cJ cZ cB a_o a_o_prices a_o_seats a_o_joined a_o_views v_o_rows v_o_awaited d_o_joined x3 q1 q3 hq4) (cwV 2 hts gX4_loneSeats_X4_loneOf rfl rfl rfl (by decide +kernel) ⟨Nat.le_of_ble_eq_true rfl, Nat.le_of_ble_eq_true rfl⟩) ⟨PRo.blind, va_recv hK.1 hPc (ci := 4) (q0 := 0) rfl rfl, PRo.at hK hPc⟩ rfl rfl hl.1 rfl (lv_room (Nat.le_of_ble_eq_true rfl)) dX4_loneSeats_20 ⟨Nat.zero_le _, Nat.zero_le _⟩) ?_
      obtain ⟨q5, hq6, hf⟩ := pf_b hf
      have hPc := hP.sub (ws' := ([] : va_W)) [] rfl
      refine cl_roi (va_runS (As := [.int q3]) (rest := [.int x2]) ⟨hx, hb, hml, hown, hts⟩ (kJ6_bitCount_0f7a4 l D cI cJ cZ cB q3 q5 hq6) (va_cwS 1 hts gX4_loneSeats_J6_bitCount_0f7a4 rfl rfl rfl (by decide +kernel) ⟨Nat.le_of_ble_eq_true rfl, Nat.le_of_ble_eq_true rfl⟩) ⟨PRo.blind, PRo.at hK hPc⟩ rfl rfl hl.1 rfl (lv_room (Nat.le_of_ble_eq_true rfl)) dX4_loneSeats_23 ⟨Nat.zero_le _, Nat.zero_le _⟩) ?_
      refine lv_iadd hx hb dX4_loneSeats_26 ?_
      refine lv_istore_n (lv' := [(2, .int (x2 + q5)), (0, .ref a_o), (1, .ref a_p1), (3, .int x3)]) hx hb dX4_loneSeats_27 rfl hl (by decide) rfl (fun ls hl => ?_)
      refine lv_iinc (v := (x3 + (1 : Int32))) (lv' := [(3, .int (x3 + (1 : Int32))), (2, .int (x2 + q5)), (0, .ref a_o), (1, .ref a_p1)]) hx hb dX4_loneSeats_28 hl (k := 3) rfl rfl (by decide) rfl (fun ls hl => ?_)
      refine lv_goto (tgt := 4) hx hb dX4_loneSeats_31 (by decide) ?_
      exact ih v_o_rows v_o_awaited d_o_joined v_p1_asked v_p1_waiting v_p1_fee v_p1_takings d_p1_free (x2 + q5) (x3 + (1 : Int32)) ls _ hP (lv_sub hl [2, 3, 1, 0] rfl) hf
def fX4_loneSeats (v_o_rows : Int32) (d_o_joined : (Nat → Int32)) (d_p1_free : (Nat → Int32)) : Option (Int32) := fX4_loneSeats_4 FU v_o_rows d_o_joined d_p1_free (0 : Int32) (0 : Int32)
set_option maxRecDepth 100000 in
set_option maxHeartbeats 4000000 in
theorem kX4_loneSeats (l : Launch) (D : va_G) (cI cJ cZ cB : ClassId) (a_o : Nat) (a_o_prices : Nat) (a_o_seats : Nat) (a_o_joined : Nat) (a_o_views : Nat) (a_p1 : Nat) (a_p1_prices : Nat) (a_p1_free : Nat) (a_p1_sizes : Nat) (a_p1_limits : Nat) (a_p1_places : Nat) (a_p1_paid : Nat) (a_p1_queue : Nat) (v_o_rows : Int32) (v_o_awaited : Int32) (d_o_joined : (Nat → Int32)) (v_p1_asked : Int32) (v_p1_waiting : Int32) (v_p1_fee : Int32) (v_p1_takings : Int32) (d_p1_free : (Nat → Int32)) (res : Int32) (hf : fX4_loneSeats v_o_rows d_o_joined d_p1_free = some res) : Ro l yX4_loneSeats wsX4_loneSeats ({ frames := 2, cells := 0, slots := 0, locals := 45 } : Room) D (tyL cI cJ cZ cB) [.ref a_o, .ref a_p1] (WX4_loneSeats cI cJ cZ cB a_o a_o_prices a_o_seats a_o_joined a_o_views a_p1 a_p1_prices a_p1_free a_p1_sizes a_p1_limits a_p1_places a_p1_paid a_p1_queue v_o_rows v_o_awaited d_o_joined v_p1_asked v_p1_waiting v_p1_fee v_p1_takings d_p1_free) (some (.int res)) := by
  refine Ro.of (cc := cX4_loneSeats) (maxL := 4) (ret := (some .int)) (own := RX4) (by decide) rfl rfl (Nat.le_of_ble_eq_true rfl) ?_
  intro p e s m below meth c ls C hK hP hl
  obtain ⟨hx, hb, hr, hml, hts, hown, hlk⟩ := id C
  have hl : lv_has ls 4 [(0, .ref a_o), (1, .ref a_p1)] := hl
  unfold fX4_loneSeats at hf
  refine lv_iconst (v := (0 : Int32)) hx hb dX4_loneSeats_0 (by decide) ?_
  refine lv_istore_n (lv' := [(2, .int (0 : Int32)), (0, .ref a_o), (1, .ref a_p1)]) hx hb dX4_loneSeats_1 rfl hl (by decide) rfl (fun ls hl => ?_)
  refine lv_iconst (v := (0 : Int32)) hx hb dX4_loneSeats_2 (by decide) ?_
  refine lv_istore_n (lv' := [(3, .int (0 : Int32)), (2, .int (0 : Int32)), (0, .ref a_o), (1, .ref a_p1)]) hx hb dX4_loneSeats_3 rfl hl (by decide) rfl (fun ls hl => ?_)
  exact tX4_loneSeats_4 C hK  FU v_o_rows v_o_awaited d_o_joined v_p1_asked v_p1_waiting v_p1_fee v_p1_takings d_p1_free (0 : Int32) (0 : Int32) ls _ hP (lv_sub hl [2, 3, 1, 0] rfl) hf
abbrev WX5_number (cI cJ cZ cB : ClassId) (a_o : Nat) (a_o_rows : Nat) (a_o_seats : Nat) (a_o_occupied : Nat) (v_o_number : Int32) : va_W := [(a_o, .inr (5, [.ref a_o_rows, .ref a_o_seats, .ref a_o_occupied, .int v_o_number]))]
set_option maxRecDepth 20000 in
theorem iX5_number_X5 : ∀ w ∈ wsX50, w ∈ wsX5_number := by decide +kernel
def fX5_number (v_o_number : Int32) : Option (Int32) := some v_o_number
set_option maxRecDepth 100000 in
set_option maxHeartbeats 4000000 in
theorem kX5_number (l : Launch) (D : va_G) (cI cJ cZ cB : ClassId) (a_o : Nat) (a_o_rows : Nat) (a_o_seats : Nat) (a_o_occupied : Nat) (v_o_number : Int32) (res : Int32) (hf : fX5_number v_o_number = some res) : Ro l yX5_number wsX5_number ({ frames := 0, cells := 0, slots := 0, locals := 0 } : Room) D (tyL cI cJ cZ cB) [.ref a_o] (WX5_number cI cJ cZ cB a_o a_o_rows a_o_seats a_o_occupied v_o_number) (some (.int res)) := by
  refine Ro.of (cc := cX5_number) (maxL := 1) (ret := (some .int)) (own := RX5) (by decide) rfl rfl (Nat.le_of_ble_eq_true rfl) ?_
  intro p e s m below meth c ls C hK hP hl
  obtain ⟨hx, hb, hr, hml, hts, hown, hlk⟩ := id C
  have hl : lv_has ls 1 [(0, .ref a_o)] := hl
  unfold fX5_number at hf
  refine lv_aload_n hx hb dX5_number_0 rfl (lv_at hl 0 rfl) ?_
  refine va_get (D := D) (ci := 5) (v := .int v_o_number) (C := RX5) (T := TX5) (N := 4) hx hb hts iX5_number_X5 hown hK.1 hP 0 rfl rfl 3 (by decide) (hts (.fieldLink RX5 22 "LoneSeats$Sights" "number" "I") (by decide +kernel)) (fun _ h9 => h9) rfl dX5_number_1 ?_
  cases hf
  exact W.iret hx hb hr (fun t ht hW => ⟨rfl, ht⟩) (fun _ h => absurd h List.not_mem_nil) dX5_number_4
abbrev WX5_clear (cI cJ cZ cB : ClassId) (a_o : Nat) (a_o_rows : Nat) (a_o_seats : Nat) (a_o_occupied : Nat) (v_o_number : Int32) : va_W := [(a_o, .inr (5, [.ref a_o_rows, .ref a_o_seats, .ref a_o_occupied, .int v_o_number]))]
set_option maxRecDepth 20000 in
theorem iX5_clear_X5 : ∀ w ∈ wsX50, w ∈ wsX5_clear := by decide +kernel
def fX5_clear (v_o_number : Int32) : Option (Int32) := some (0 : Int32)
set_option maxRecDepth 100000 in
set_option maxHeartbeats 4000000 in
theorem kX5_clear (l : Launch) (D : va_G) (cI cJ cZ cB : ClassId) (a_o : Nat) (a_o_rows : Nat) (a_o_seats : Nat) (a_o_occupied : Nat) (v_o_number : Int32) (res : Int32) (hf : fX5_clear v_o_number = some res) : Rw l yX5_clear wsX5_clear ({ frames := 0, cells := 0, slots := 0, locals := 0 } : Room) D (tyL cI cJ cZ cB) [.ref a_o] (WX5_clear cI cJ cZ cB a_o a_o_rows a_o_seats a_o_occupied v_o_number) none (WX5_clear cI cJ cZ cB a_o a_o_rows a_o_seats a_o_occupied res) := by
  refine Rw.of (cc := cX5_clear) (maxL := 1) (ret := none) (own := RX5) (by decide) rfl rfl (Nat.le_of_ble_eq_true rfl) ?_
  intro p e s m below meth c A ls C hK hA hP hD hS hl
  obtain ⟨hx, hb, hr, hml, hts, hown, hlk⟩ := id C
  have hl : lv_has ls 1 [(0, .ref a_o)] := hl
  unfold fX5_clear at hf
  refine lv_aload_n hx hb dX5_clear_0 rfl (lv_at hl 0 rfl) ?_
  refine lv_iconst (v := (0 : Int32)) hx hb dX5_clear_1 (by decide) ?_
  refine va_put (D := D) (ci := 5) (v := .int (0 : Int32)) (ty := .int) (C := RX5) (T := TX5) (N := 4) hx hb hts iX5_clear_X5 tyX5 tyX5_ok nmX5 hown hK.1 hP hD hS 0 rfl rfl 3 (by decide) (hts (.fieldLink RX5 22 "LoneSeats$Sights" "number" "I") (by decide +kernel)) (fun _ h9 => h9) rfl (by decide +kernel) rfl rfl (Nat.le_of_ble_eq_true rfl) dX5_clear_2 (fun H locs hP hD hS => ?_)
  have hP : va_P D vwCl (WX5_clear cI cJ cZ cB a_o a_o_rows a_o_seats a_o_occupied (0 : Int32)) H := hP
  have hD : va_D A (WX5_clear cI cJ cZ cB a_o a_o_rows a_o_seats a_o_occupied (0 : Int32)) := hD
  cases hf
  exact W.vret hx hb hr (fun t ht hW => ⟨⟨rfl, by rw [ht]; exact hP, hD⟩, hS.F ht⟩) hS.2.2 dX5_clear_5
